/-! THE REFERENCE'S ROWS -/
def fr_R (I : Nat → Nat → Int32) (g : Nat) (l : List Nat) : Prop := I g 34 = nI l.length ∧ ix_R I (g + 22) l
def fr_K (g : Nat) (I I' : Nat → Nat → Int32) : Prop := ∀ a k, (a ≠ g ∨ (k ≠ 18 ∧ k ≠ 34)) → (a < g + 9 ∨ g + 13 < a) → a ≠ g + 22 → I' a k = I a k
theorem fr_refl {g : Nat} {I : Nat → Nat → Int32} : fr_K g I I := fun _ _ _ _ _ => rfl
theorem fr_trans {g : Nat} {I I' I2 : Nat → Nat → Int32} (h : fr_K g I I') (k : fr_K g I' I2) : fr_K g I I2 := fun a j h1 h2 h3 => (k a j h1 h2 h3).trans (h a j h1 h2 h3)
theorem fr_bh {g : Nat} {I I' : Nat → Nat → Int32} (h : bh_K g I I') : fr_K g I I' := fun a j h1 h2 h3 => h a j (by omega) (by omega)
theorem mo_P_f {g : Nat} {I I' : Nat → Nat → Int32} {P : pg_P} (h : fr_K g I I') (hp : mo_P I g P) : mo_P I' g P := by
  obtain ⟨p0, p1⟩ := hp
  refine ⟨(h _ _ (by omega) (by omega) (by omega)).trans p0, fun i hi => ?_⟩
  obtain ⟨a, b, c⟩ := p1 i hi
  exact ⟨(h _ _ (by omega) (by omega) (by omega)).trans a, (h _ _ (by omega) (by omega) (by omega)).trans b, (h _ _ (by omega) (by omega) (by omega)).trans c⟩
def bx_R (I : Nat → Nat → Int32) (g : Nat) (x : Int32) (st : List Nat) : Prop := ∃ s : mk_S, s.map (fun e => e.1) = st ∧ bh_R I g x s
/-- the marks, and the row so far -/
def rr_R (P : pg_P) (I : Nat → Nat → Int32) (g S : Nat) (s : ro_T) : Prop := fr_R I g (tr P s.2) ∧ (hf P s.2 = false → mm_R I g S s.1) ∧ (∃ m, mm_R I g S m) ∧ nw_R I g
theorem tr_1 {P : pg_P} {l : List Nat} {i : Nat} (h : hf P l = false) : tr P (l ++ [i]) = l ++ [i] := by
  rw [tr_app2 l [i] h, tr_c]
  split <;> rfl
section MR
variable {sh : Nat → Option (Nat × Nat)} {I : Nat → Nat → Int32} {J : Nat → Nat → Int64} {R : Nat → Nat → Option Nat} {n g : Nat} {P : pg_P} {T : tx_T}
theorem e_Mo_hasFound {a N o : Nat} {r : List Nat} (hl : ly_M sh R g) (hW : pg_W P) (hp : mo_P I g P) (ha : sh a = some (1000, N)) (hN : N < 2 ^ 30) (hix : ∀ j e, r[j]? = some e → I a (o + j) = nI e) (htr : tr P r = r) (hlt : ∀ e, e ∈ r → e < P.1) (hb : o + r.length ≤ N) : f_Mo_hasFound g (some a) (nI o) (nI r.length) (sh, I, J, R, n) = some (bI (hf P r), (sh, I, J, R, n)) := by
  have h49 := hW.2.1
  unfold f_Mo_hasFound
  by_cases hr : r.length = 0
  · rw [if_pos (by rw [hr]; decide), List.length_eq_zero_iff.mp hr]; rfl
  · rw [if_neg (by rw [li_0, nI_leI (by omega) (by omega)]; omega)]
    have hge : r[r.length - 1]? = some r[r.length - 1] := List.getElem?_eq_getElem (by omega)
    generalize r[r.length - 1]'(by omega) = e at hge
    have he : e < P.1 := hlt e (List.mem_of_getElem? hge)
    have hie := hix _ _ hge
    have x1 := ev_ix (N := N) (k := o + (r.length - 1)) (by omega) (by omega)
    have x2 := ev_ix (N := 64) (k := e) (by omega) (by omega)
    have hlast := tr_last (P := P) r e (by rw [htr]; exact hge)
    have hk7 := (hW.2.2.1 e he).1
    have e1 : nI o + nI r.length - 1 = nI (o + (r.length - 1)) := by rw [nI_add, li_1, pk_sub (by omega)]; congr 1; omega
    simp only [ev_ob (ms_o hl), ev_b, ev_ar0 ha, e1, x1, ev_I, hie, ev_R, mr_7 hl, ev_ar0 (ms_3 hl), x2, (hp.2 e he).1]
    by_cases hk : P.2.1 e = 7
    · rw [if_pos (by rw [hk]; rfl), hlast.mp hk]; rfl
    · rw [if_neg (by rw [li_7, nI_eq (by omega) (by omega)]; exact hk)]
      have : hf P r = false := by
        cases h : hf P r with
        | false => rfl
        | true => exact absurd (hlast.mpr h) hk
      rw [this]; rfl
theorem bx_top {x : Int32} {i : Nat} {r : List Nat} (h : bx_R I g x (i :: r)) : ∃ w s, s.map (fun e : Nat × Nat × Int64 => e.1) = r ∧ x = nI i ∧ I g 18 = nI s.length ∧ sl_R I (g + 13) 0 w ∧ wy_R I g s := by
  obtain ⟨s, h1, h2⟩ := h
  match s with
  | [] => cases h1
  | e :: s =>
    have h1 : e.1 :: s.map (fun e : Nat × Nat × Int64 => e.1) = i :: r := h1
    injection h1 with h3 h4
    obtain ⟨b0, b1, b2, b3⟩ := h2
    exact ⟨e.2.2, s, h4, by rw [b0, h3], b1, b2, b3⟩
/-- the end of a step of followRow -/
theorem e_bkN {x : Int32} {nx r : mk_S} (hl : ly_M sh R g) (hr : r.length < 600) (hb : ∀ e, e ∈ nx → e.1 < 49) (hn : nw_R I g) (h : (nx = [] ∧ x = -1 ∧ I g 18 = nI r.length ∧ wy_R I g r) ∨ (nx ≠ [] ∧ bh_R I g x (nx ++ r))) :
    ∃ x' I', ((if x = -1 then (x_ob (sh, I, J, R, n) 11 (some g)).bind fun a16 => (f_Mo_back a16 (sh, I, J, R, n)).bind fun p17 => some (p17.1, p17.2) else some (x, (sh, I, J, R, n))) : Option (Int32 × hv_S)) = some (x', (sh, I', J, R, n)) ∧ bx_R I' g x' ((nx ++ r).map (fun e => e.1)) ∧ bh_K g I I' ∧ nw_R I' g := by
  obtain ⟨x', I', e1, q1, q2, q3⟩ := e_bk (J := J) (n := n) hl hr hb h
  exact ⟨x', I', e1, ⟨_, rfl, q1⟩, q2, q3 hn⟩
theorem e_Mo_frloop {S fed : Nat} {fst : Bool} (hl : ly_M sh R g) (hW : pg_W P) (hfb : fed < 31) :
    ∀ (k N : Nat) (st : List Nat) (m : Nat → Bool) (l : List Nat) (x : Int32) (I : Nat → Nat → Int32), k < N → ro_m P (st, m, l) ≤ k → ro_I P (st, m, l) → mo_P I g P → I g 4 = nI fed → bx_R I g x st → rr_R P I g S (m, l) →
    ∃ I', L_Mo_followRow_7 N (some g) (bI fst) x (sh, I, J, R, n) = some (sh, I', J, R, n) ∧ rr_R P I' g S (ro_n P (if fst then 0 else 1) 2 k (st, m, l)).2 ∧ fr_K g I I'
  | k, 0, _, _, _, _, _, h, _, _, _, _, _, _ => by omega
  | k, N + 1, [], m, l, x, I, hN, hm, hI, hp, hf4, hb, hr => by
    have hx : x = -1 := by
      obtain ⟨s, h1, h2⟩ := hb
      rw [List.map_eq_nil_iff.mp h1] at h2
      exact h2.1
    rw [L_Mo_followRow_7, if_pos hx, ro_e]
    exact ⟨I, rfl, hr, fr_refl⟩
  | 0, N + 1, i :: r, m, l, x, I, hN, hm, hI, hp, hf4, hb, hr => by
    unfold ro_m at hm
    simp only [List.length_cons] at hm
    omega
  | k + 1, N + 1, i :: r, m, l, x, I, hN, hm, hI, hp, hf4, hb, hr => by
    have h49 := hW.2.1
    obtain ⟨i1, i2, i3, i4⟩ := hI
    have hi : i < P.1 := i1 i List.mem_cons_self
    have i2 : (r.length + 1) + ct (fun j => !m j && pg_s P j) P.1 ≤ 25 := i2
    have i3 : l.length + ct (fun j => !m j && pg_e P j) P.1 ≤ 25 := i3
    have i4 : ∀ e, e ∈ l → e < P.1 := i4
    obtain ⟨w, s, hs, hx, b1, b2, b3⟩ := bx_top hb
    subst hx
    obtain ⟨⟨f1, f2⟩, hmm, hme, hnw⟩ := hr
    have hslen : s.length = r.length := by rw [← hs, List.length_map]
    have htl := tr_len (P := P) l
    have e0 := e_Mo_hasFound (J := J) (n := n) (o := 0) hl hW hp (ms_22 hl) (by omega) (r := tr P l) (fun j e he => by rw [Nat.zero_add]; exact f2 j e he) (tr_tr l) (fun e he => i4 e (tr_mem l e he)) (by omega)
    rw [hf_tr] at e0
    have e0' : f_Mo_hasFound g (some (g + 22)) 0 (nI (tr P l).length) (sh, I, J, R, n) = some (bI (hf P l), (sh, I, J, R, n)) := e0
    rw [L_Mo_followRow_7, if_neg (by rw [ev_n1 (by omega)]; exact not_false)]
    simp only [ev_ob (ms_o hl), ev_b, ev_R, mr_35 hl, ev_I, f1, e0']
    by_cases hfl : hf P l = true
    · rw [hfl, if_neg (show ¬ bI true = 0 by decide)]
      refine ⟨I, rfl, ?_, fr_refl⟩
      rw [ro_app]
      refine ⟨?_, fun h => ?_, hme, hnw⟩
      · show fr_R I g (tr P (l ++ _))
        rw [tr_app l _ hfl]; exact ⟨f1, f2⟩
      · have h : hf P (l ++ _) = false := h
        rw [hf_a, hfl] at h
        cases h
    · have hfl' : hf P l = false := by simpa using hfl
      have htrl : tr P l = l := tr_nf l hfl'
      rw [htrl] at f1 f2
      rw [hfl', if_pos (show bI false = 0 by decide)]
      have hmm := hmm hfl'
      have hmm : mm_R I g S m := hmm
      have x1 := ev_ix (N := 64) (k := i) (by omega) (by omega)
      have hmi := mm_R_t hmm (show i < 49 by omega)
      simp only [mr_17 hl, ev_ar0 (ms_9 hl), ev_b, x1]
      have hinv := ro_inv (pl := if fst then 0 else 1) (ru := 2) (s := (i :: r, m, l)) hW ⟨i1, i2, i3, i4⟩
      have hdec := hinv.2 (by simp)
      have hro : ro_n P (if fst then 0 else 1) 2 (k + 1) (i :: r, m, l) = ro_n P (if fst then 0 else 1) 2 k (ro_1 P (if fst then 0 else 1) 2 (i :: r, m, l)) := rfl
      rw [hro]
      rw [ro_1c] at hinv hdec ⊢
      by_cases hmk : m i = true
      · rw [if_pos hmk] at hinv hdec ⊢
        rw [hmk, decide_eq_true_eq] at hmi
        rw [if_pos hmi, ev_b]
        obtain ⟨x', I1, e1, q1, q2, q3⟩ := e_bkN (J := J) (n := n) (x := -1) (nx := []) (r := s) hl (by omega) (fun e he => by cases he) hnw (Or.inl ⟨rfl, rfl, b1, b3⟩)
        rw [e1, ev_b]
        obtain ⟨I2, e2, r2, K2⟩ := e_Mo_frloop hl hW hfb k N r m l x' I1 (by omega) (by omega) hinv.1 (mo_P_f (fr_bh q2) hp) ((q2 _ _ (by omega) (by omega)).trans hf4) (by rw [← hs]; exact q1) ⟨⟨by rw [htrl, q2 _ _ (by omega) (by omega)]; exact f1, fun j e he => by rw [q2 _ _ (by omega) (by omega)]; exact f2 j e (by rw [← htrl]; exact he)⟩, fun _ => mm_R_mono (fun j => q2 _ _ (by omega) (by omega)) (q2 _ _ (by omega) (by omega)) hmm, ⟨m, mm_R_mono (fun j => q2 _ _ (by omega) (by omega)) (q2 _ _ (by omega) (by omega)) hmm⟩, q3⟩
        exact ⟨I2, e2, r2, fr_trans (fr_bh q2) K2⟩
      · have hmk' : m i = false := by simpa using hmk
        rw [if_neg hmk] at hinv hdec ⊢
        rw [hmk', decide_eq_false_iff_not] at hmi
        rw [if_neg hmi]
        have hK1 : ∀ a k, a ≠ g + 9 → (hv_u I (g + 9) i (I g 16)) a k = I a k := fun a k h => ev_ua h
        have hm1 := mm_R_set (i := i) hmm
        simp only [ev_sI, ev_I, ev_R, mr_7 hl, mr_35 hl, ev_ar0 (ms_3 hl), ev_b, x1, ev_ua (show g + 3 ≠ g + 9 by omega), (hp.2 i hi).1]
        generalize hv_u I (g + 9) i (I g 16) = I1 at hK1 hm1 ⊢
        have hFK : fr_K g I I1 := fun a k h1 h2 h3 => hK1 a k (by omega)
        have hw1 : wy_R I1 g s := wy_R_mono _ (fun k hk => ⟨hK1 _ _ (by omega), hK1 _ _ (by omega)⟩) (fun k hk => hK1 _ _ (by omega)) b3
        have hn1 : sl_R I1 (g + 13) 0 w := fun k hk => (hK1 _ _ (by omega)).trans (b2 k hk)
        have hc1 : I1 g 18 = nI s.length := (hK1 _ _ (by omega)).trans b1
        have hf1 : I1 g 4 = nI fed := (hK1 _ _ (by omega)).trans hf4
        have hp1 := mo_P_f hFK hp
        have f11 : I1 g 34 = nI l.length := (hK1 _ _ (by omega)).trans f1
        have f21 : ix_R I1 (g + 22) l := fun j e he => (hK1 _ _ (by omega)).trans (f2 j e he)
        obtain ⟨w7, wf, w2, w3, w4, w0⟩ := hW.2.2.1 i hi
        by_cases hen : P.2.1 i < 2 ∨ 6 ≤ P.2.1 i
        · -- an entry of the row
          have hnx : ro_nx P (if fst then 0 else 1) 2 i = [] := by
            unfold ro_nx fo_nx
            rw [if_neg (by omega), if_neg (by omega), if_neg (by omega), if_neg (by omega)]
            split
            · rfl
            · rfl
          have hen' : fo_en P 2 i = true := by
            unfold fo_en
            split
            · rfl
            · exact decide_eq_true (by omega)
          have c3 := ct_mark hmk' (q := pg_e P) P.1 hi
          rw [if_pos (show pg_e P i = true from decide_eq_true (by omega))] at c3
          have hl24 : l.length < 64 := by omega
          rw [hnx, hen', if_pos rfl] at hinv hdec ⊢
          have x2 := ev_ix (N := 64) (k := l.length) hl24 (by omega)
          have hK2 : ∀ a k, a ≠ g + 22 → (a ≠ g ∨ k ≠ 34) → (hv_u (hv_u I1 (g + 22) l.length (nI i)) g 34 (nI (l.length + 1))) a k = I1 a k := fun a k h1 h2 => by
            rcases h2 with h2 | h2
            · rw [ev_ua h2, ev_ua h1]
            · rw [ev_uk h2, ev_ua h1]
          have f12 : (hv_u (hv_u I1 (g + 22) l.length (nI i)) g 34 (nI (l.length + 1))) g 34 = nI (l ++ [i]).length := by rw [ev_us]; simp
          have f22 : ix_R (hv_u (hv_u I1 (g + 22) l.length (nI i)) g 34 (nI (l.length + 1))) (g + 22) (l ++ [i]) := fun j e he => by
            rw [ev_ua (by omega)]
            rcases Nat.lt_trichotomy j l.length with hk | hk | hk
            · rw [List.getElem?_append_left hk] at he
              rw [ev_uk (by omega)]; exact f21 j e he
            · subst hk
              simp at he
              subst he
              rw [ev_us]
            · rw [List.getElem?_eq_none (by simp; omega)] at he; cases he
          have ee : ((if nI (P.2.1 i) ≤ 1 then (x_ar (sh, I1, J, R, n) 0 (some (g + 22))).bind fun q13 => (x_ix q13.2 (I1 g 34)).bind fun k14 => (some (hv_setI (sh, I1, J, R, n) q13.1 k14 (nI i))).bind fun s15 => (some (hv_setI s15 g 34 (hv_I s15 g 34 + 1))).bind fun s16 => some ((-1 : Int32), s16) else if nI (P.2.1 i) < 6 then if nI (P.2.1 i) = 5 then if bI fst = 0 then some ((-1 : Int32), (sh, I1, J, R, n)) else (f_Mo_behind g (nI i) 0 (sh, I1, J, R, n)).bind fun p18 => some (p18.1, p18.2) else (f_Mo_behind g (nI i) 0 (sh, I1, J, R, n)).bind fun p17 => some (p17.1, p17.2) else (x_ar (sh, I1, J, R, n) 0 (some (g + 22))).bind fun q19 => (x_ix q19.2 (I1 g 34)).bind fun k20 => (some (hv_setI (sh, I1, J, R, n) q19.1 k20 (nI i))).bind fun s21 => (some (hv_setI s21 g 34 (hv_I s21 g 34 + 1))).bind fun s22 => some ((-1 : Int32), s22)) : Option (Int32 × hv_S)) = some (-1, (sh, hv_u (hv_u I1 (g + 22) l.length (nI i)) g 34 (nI (l.length + 1)), J, R, n)) := by
            simp only [ev_ar0 (ms_22 hl), ev_b, f11, x2, ev_sI, ev_I, ev_ua (show g ≠ g + 22 by omega), nI_1]
            by_cases h2 : nI (P.2.1 i) ≤ 1
            · rw [if_pos h2]
            · rw [if_neg h2]
              rw [li_1, nI_leI (by omega) (by omega)] at h2
              rw [if_neg (by rw [li_6, nI_ltI (by omega) (by omega)]; omega)]
          simp only [ev_b, ev_I, ev_sI] at ee
          rw [ee, ev_b]
          generalize hv_u (hv_u I1 (g + 22) l.length (nI i)) g 34 (nI (l.length + 1)) = I2 at hK2 f12 f22 ⊢
          obtain ⟨x', I3, e3, q1, q2, q3⟩ := e_bkN (J := J) (n := n) (I := I2) (x := -1) (nx := []) (r := s) hl (by omega) (fun e he => by cases he) ⟨w, fun k hk => (hK2 _ _ (by omega) (by omega)).trans (hn1 k hk)⟩ (Or.inl ⟨rfl, rfl, (hK2 _ _ (by omega) (by omega)).trans hc1, wy_R_mono _ (fun k hk => ⟨hK2 _ _ (by omega) (by omega), hK2 _ _ (by omega) (by omega)⟩) (fun k hk => hK2 _ _ (by omega) (by omega)) hw1⟩)
          rw [e3, ev_b]
          have K13 : fr_K g I I3 := fr_trans hFK (fr_trans (fun a k h1 h2 h3 => hK2 a k h3 (by omega)) (fr_bh q2))
          have hm3 : mm_R I3 g S (fo_mk m i) := mm_R_mono (fun j => (q2 _ _ (by omega) (by omega)).trans (hK2 _ _ (by omega) (by omega))) ((q2 _ _ (by omega) (by omega)).trans (hK2 _ _ (by omega) (by omega))) hm1
          obtain ⟨I4, e4, r4, K4⟩ := e_Mo_frloop hl hW hfb k N ([] ++ r) (fo_mk m i) (l ++ [i]) x' I3 (by omega) (by omega) hinv.1 (mo_P_f K13 hp) ((K13 _ _ (by omega) (by omega) (by omega)).trans hf4) (by rw [List.nil_append, ← hs]; exact q1) ⟨⟨by rw [tr_1 hfl', q2 _ _ (by omega) (by omega)]; exact f12, fun j e he => by
            rw [q2 _ _ (by omega) (by omega)]
            exact f22 j e (by rw [← tr_1 (i := i) hfl']; exact he)⟩, fun _ => hm3, ⟨_, hm3⟩, q3⟩
          exact ⟨I4, e4, r4, fr_trans K13 K4⟩
        · -- a way
          have hk2 : 2 ≤ P.2.1 i ∧ P.2.1 i < 6 := by omega
          have hen' : fo_en P 2 i = false := by
            unfold fo_en
            rw [if_neg (by omega)]
            exact decide_eq_false (by omega)
          obtain ⟨x2, I2, e2, K2, c2⟩ := e_Mo_behind (J := J) (n := n) (pl := 0) hl hp1 hW hi (by omega) hf1 hfb hc1 (by omega) hn1 hw1
          have e2' : f_Mo_behind g (nI i) 0 (sh, I1, J, R, n) = some (x2, (sh, I2, J, R, n)) := e2
          have hcase : ∃ x3 I3 nx, ((if nI (P.2.1 i) ≤ 1 then (x_ar (sh, I1, J, R, n) 0 (some (g + 22))).bind fun q13 => (x_ix q13.2 (I1 g 34)).bind fun k14 => (some (hv_setI (sh, I1, J, R, n) q13.1 k14 (nI i))).bind fun s15 => (some (hv_setI s15 g 34 (hv_I s15 g 34 + 1))).bind fun s16 => some ((-1 : Int32), s16) else if nI (P.2.1 i) < 6 then if nI (P.2.1 i) = 5 then if bI fst = 0 then some ((-1 : Int32), (sh, I1, J, R, n)) else (f_Mo_behind g (nI i) 0 (sh, I1, J, R, n)).bind fun p18 => some (p18.1, p18.2) else (f_Mo_behind g (nI i) 0 (sh, I1, J, R, n)).bind fun p17 => some (p17.1, p17.2) else (x_ar (sh, I1, J, R, n) 0 (some (g + 22))).bind fun q19 => (x_ix q19.2 (I1 g 34)).bind fun k20 => (some (hv_setI (sh, I1, J, R, n) q19.1 k20 (nI i))).bind fun s21 => (some (hv_setI s21 g 34 (hv_I s21 g 34 + 1))).bind fun s22 => some ((-1 : Int32), s22)) : Option (Int32 × hv_S)) = some (x3, (sh, I3, J, R, n)) ∧ nx.map (fun e : Nat × Nat × Int64 => e.1) = ro_nx P (if fst then 0 else 1) 2 i ∧ bh_K g I1 I3 ∧ nw_R I3 g ∧ ((nx = [] ∧ x3 = -1 ∧ I3 g 18 = nI s.length ∧ wy_R I3 g s) ∨ (nx ≠ [] ∧ bh_R I3 g x3 (nx ++ s))) := by
            rw [if_neg (by rw [li_1, nI_leI (by omega) (by omega)]; omega), if_pos (by rw [li_6, nI_ltI (by omega) (by omega)]; omega)]
            have hnw2 : nw_R I2 g := by
              rcases c2 with ⟨c1, rfl, rfl⟩ | ⟨c1, c2⟩
              · exact ⟨w, hn1⟩
              · have key : ∀ z : List (Nat × Int64), z ≠ [] → bh_R I2 g x2 (z.map (fun e => (e.1, 0, e.2)) ++ s) → nw_R I2 g := fun z h1 h2 => by
                  match z with
                  | [] => exact absurd rfl h1
                  | e :: r' => exact ⟨e.2, h2.2.2.1⟩
                exact key _ c1 c2
            have hgo : (fo_nx P 0 (if 0 = fed then 1 else 0) i w).map (fun e => e.1) = ro_nx P (if fst then 0 else 1) 2 i → ∃ nx : mk_S, nx.map (fun e : Nat × Nat × Int64 => e.1) = ro_nx P (if fst then 0 else 1) 2 i ∧ ((nx = [] ∧ x2 = -1 ∧ I2 g 18 = nI s.length ∧ wy_R I2 g s) ∨ (nx ≠ [] ∧ bh_R I2 g x2 (nx ++ s))) := fun h => by
              refine ⟨(fo_nx P 0 (if 0 = fed then 1 else 0) i w).map (fun e => (e.1, 0, e.2)), by rw [← h, List.map_map]; rfl, ?_⟩
              rcases c2 with ⟨c1, rfl, rfl⟩ | ⟨c1, c2⟩
              · exact Or.inl ⟨by rw [c1]; rfl, rfl, hc1, hw1⟩
              · exact Or.inr ⟨fun e => c1 (List.map_eq_nil_iff.mp e), c2⟩
            by_cases h5 : P.2.1 i = 5
            · rw [if_pos (by rw [h5]; rfl)]
              cases fst with
              | false =>
                rw [if_pos (show bI false = 0 by decide)]
                refine ⟨-1, I1, [], rfl, ?_, bh_K_refl, ⟨w, hn1⟩, Or.inl ⟨rfl, rfl, hc1, hw1⟩⟩
                simp [ro_nx, fo_nx, h5]
              | true =>
                rw [if_neg (show ¬ bI true = 0 by decide), e2', ev_b]
                obtain ⟨nx, a1, a2⟩ := hgo (by simp [ro_nx, fo_nx, h5])
                exact ⟨x2, I2, nx, rfl, a1, K2, hnw2, a2⟩
            · rw [if_neg (by rw [li_5, nI_eq (by omega) (by omega)]; exact h5), e2', ev_b]
              obtain ⟨nx, a1, a2⟩ := hgo (by
                have h24 : P.2.1 i = 2 ∨ P.2.1 i = 3 ∨ P.2.1 i = 4 := by omega
                rcases h24 with h | h | h <;> simp [ro_nx, fo_nx, h])
              exact ⟨x2, I2, nx, rfl, a1, K2, hnw2, a2⟩
          obtain ⟨x3, I3, nx, e3, hnxm, K3, hnw3, c3⟩ := hcase
          simp only [ev_b, ev_I, ev_sI] at e3
          rw [e3, ev_b]
          have hnb : ∀ e, e ∈ nx → e.1 < 49 := fun e he => by
            have h1 : e.1 ∈ ro_nx P (if fst then 0 else 1) 2 i := by rw [← hnxm]; exact List.mem_map.mpr ⟨e, he, rfl⟩
            have h2 := hinv.1.1 e.1 (List.mem_append.mpr (Or.inl h1))
            omega
          obtain ⟨x', I4, e4, q1, q2, q3⟩ := e_bkN (J := J) (n := n) (I := I3) (x := x3) (nx := nx) (r := s) hl (by omega) hnb hnw3 c3
          rw [e4, ev_b]
          have K34 := bh_K_trans K3 q2
          have K14 : fr_K g I I4 := fr_trans hFK (fr_bh K34)
          rw [hen'] at hinv hdec ⊢
          have hm4 : mm_R I4 g S (fo_mk m i) := mm_R_mono (fun j => K34 _ _ (by omega) (by omega)) (K34 _ _ (by omega) (by omega)) hm1
          obtain ⟨I5, e5, r5, K5⟩ := e_Mo_frloop hl hW hfb k N (ro_nx P (if fst then 0 else 1) 2 i ++ r) (fo_mk m i) l x' I4 (by omega) (by exact Nat.le_of_lt_succ (Nat.lt_of_lt_of_le hdec hm)) hinv.1 (mo_P_f K14 hp) ((K14 _ _ (by omega) (by omega) (by omega)).trans hf4) (by rw [← hnxm, ← hs, ← List.map_append]; exact q1) ⟨⟨by rw [htrl, K34 _ _ (by omega) (by omega)]; exact f11, fun j e he => by rw [K34 _ _ (by omega) (by omega)]; exact f21 j e (by rw [← htrl]; exact he)⟩, fun _ => hm4, ⟨_, hm4⟩, q3⟩
          exact ⟨I5, e5, r5, fr_trans K14 K5⟩
theorem e_Mo_followRow {S fed i : Nat} {fst : Bool} {s : ro_T} (hl : ly_M sh R g) (hW : pg_W P) (hfb : fed < 31) (hi : i < P.1) (hJ : ro_J P s) (hp : mo_P I g P) (hf4 : I g 4 = nI fed) (hr : rr_R P I g S s) :
    ∃ I', f_Mo_followRow g (nI i) (bI fst) (sh, I, J, R, n) = some (sh, I', J, R, n) ∧ rr_R P I' g S (ro_F P (if fst then 0 else 1) 2 i s) ∧ fr_K g I I' := by
  obtain ⟨j1, j2⟩ := ro_JI hW hJ hi
  have hK : ∀ a k, (a ≠ g ∨ k ≠ 18) → (hv_u I g 18 0) a k = I a k := fun a k h => by
    rcases h with h | h
    · rw [ev_ua h]
    · rw [ev_uk h]
  have hFK : fr_K g I (hv_u I g 18 0) := fun a k h1 h2 h3 => hK a k (by omega)
  obtain ⟨⟨f1, f2⟩, hmm, ⟨m', hme⟩, w, hw⟩ := hr
  obtain ⟨I2, e2, r2, K2⟩ := e_Mo_frloop (J := J) (n := n) (S := S) (fst := fst) hl hW hfb fo_N.1 100000 [i] s.1 s.2 (nI i) (hv_u I g 18 0) (by rw [fo_N.2]; omega) (by rw [fo_N.2]; exact j2) j1 (mo_P_f hFK hp) ((hK _ _ (by omega)).trans hf4) ⟨[(i, 0, w)], rfl, rfl, by rw [ev_us]; rfl, fun k hk => (hK _ _ (by omega)).trans (hw k hk), trivial⟩ ⟨⟨(hK _ _ (by omega)).trans f1, fun j e he => (hK _ _ (by omega)).trans (f2 j e he)⟩, fun h => mm_R_mono (fun j => hK _ _ (by omega)) (hK _ _ (by omega)) (hmm h), ⟨m', mm_R_mono (fun j => hK _ _ (by omega)) (hK _ _ (by omega)) hme⟩, ⟨w, fun k hk => (hK _ _ (by omega)).trans (hw k hk)⟩⟩
  refine ⟨I2, ?_, r2, fr_trans hFK K2⟩
  unfold f_Mo_followRow
  simp only [ev_ob (ms_o hl), ev_b, ev_sI, e2]
end MR
