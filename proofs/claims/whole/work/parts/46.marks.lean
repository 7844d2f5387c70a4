/-! A SEARCH WITH MARKS: in the abstract, and the class's Marks -/
theorem ct_add {q : Nat → Bool} {v : Bool} (a : Nat) : ∀ b, (∀ j, a ≤ j → j < a + b → q j = v) → ct q (a + b) = ct q a + b * (if v then 1 else 0)
  | 0, _ => by simp
  | b + 1, h => by
    have ih := ct_add a b (fun j h1 h2 => h j h1 (by omega))
    show ct q (a + b) + (if q (a + b) then 1 else 0) = _
    rw [ih, h (a + b) (by omega) (by omega)]
    cases v
    · simp
    · simp; omega
theorem ct_21 (q : Nat → Bool) : ∀ n, ct (fun j => q (j / 21)) (21 * n) = 21 * ct q n
  | 0 => rfl
  | n + 1 => by
    rw [show 21 * (n + 1) = 21 * n + 21 from by omega, ct_add (v := q n) (21 * n) 21 (fun j h1 h2 => by
      show q (j / 21) = q n
      rw [show j / 21 = n from by omega]), ct_21 q n]
    show _ = 21 * (ct q n + (if q n then 1 else 0))
    cases q n
    · simp
    · simp; omega
abbrev mk_S : Type := List (Nat × Nat × Int64)
def mk_nx (P : pg_P) (T : tx_T) (i p : Nat) (w : Int64) : mk_S := if tk P T i p then [(i + 1, p + 1, w)] else fw p (fo_nx P p (tx_r T p) i w)
def mk_f (P : pg_P) (T : tx_T) : Nat → mk_S → (Nat → Bool) → Nat → Int64 × (Nat → Bool) × Nat
  | 0, _, V, c => (0, V, c)
  | _ + 1, [], V, c => (0, V, c)
  | k + 1, (i, p, w) :: r, V, c => if V (21 * i + p) then mk_f P T k r V c else if P.2.1 i = 7 then (sl_w w 1 p, fo_mk V (21 * i + p), c + 1) else mk_f P T k (mk_nx P T i p w ++ r) (fo_mk V (21 * i + p)) (c + 1)
theorem mk_fn {P : pg_P} {T : tx_T} {V : Nat → Bool} {c : Nat} : ∀ k, mk_f P T k [] V c = (0, V, c)
  | 0 => rfl
  | _ + 1 => rfl
theorem mk_fc {P : pg_P} {T : tx_T} {V : Nat → Bool} {c k i p : Nat} {w : Int64} {r : mk_S} : mk_f P T (k + 1) ((i, p, w) :: r) V c = if V (21 * i + p) then mk_f P T k r V c else if P.2.1 i = 7 then (sl_w w 1 p, fo_mk V (21 * i + p), c + 1) else mk_f P T k (mk_nx P T i p w ++ r) (fo_mk V (21 * i + p)) (c + 1) := rfl
def mk_ok (P : pg_P) (T : tx_T) (e : Nat × Nat × Int64) : Prop := e.1 < P.1 ∧ e.2.1 ≤ T.1 ∧ sl_B 0 20 e.2.2
def mk_I (P : pg_P) (T : tx_T) (s : mk_S) (V : Nat → Bool) : Prop := (∀ e, e ∈ s → mk_ok P T e) ∧ s.length + ct (fun j => !V j && pg_s P (j / 21)) (21 * P.1) ≤ 505
def mk_m (P : pg_P) (s : mk_S) (V : Nat → Bool) : Nat := s.length + 2 * ct (fun j => !V j && true) (21 * P.1)
theorem fo_nx_Q {P : pg_P} {pl ru i : Nat} {w : Int64} {Q : Int64 → Prop} (hW : pg_W P) (hQ : ∀ w j, Q w → 2 ≤ j → j < 8 → Q (sl_w w j pl)) (hi : i < P.1) (hw : Q w) : ∀ e, e ∈ fo_nx P pl ru i w → Q e.2 := by
  intro e he
  obtain ⟨w7, wf, w2, w3, w4, w0⟩ := hW.2.2.1 i hi
  unfold fo_nx at he
  split at he
  · simp only [List.mem_cons, List.not_mem_nil, or_false] at he
    rcases he with rfl | rfl <;> exact hw
  · split at he
    · simp only [List.mem_cons, List.not_mem_nil, or_false] at he; subst he; exact hw
    · split at he
      · next hk => simp only [List.mem_cons, List.not_mem_nil, or_false] at he; subst he; exact hQ w _ hw (w4 hk).1 (w4 hk).2
      · split at he
        · split at he
          · simp only [List.mem_cons, List.not_mem_nil, or_false] at he; subst he; exact hw
          · cases he
        · split at he
          · split at he
            · simp only [List.mem_cons, List.not_mem_nil, or_false] at he; subst he; exact hw
            · cases he
          · cases he
theorem mk_nx_ok {P : pg_P} {T : tx_T} {i p : Nat} {w : Int64} (hW : pg_W P) (h20 : T.1 ≤ 20) (h : mk_ok P T (i, p, w)) : ∀ e, e ∈ mk_nx P T i p w → mk_ok P T e := by
  obtain ⟨h1, h2, h3⟩ := h
  intro e he
  unfold mk_nx at he
  split at he
  · next ht =>
    obtain ⟨t1, t2⟩ := tk_lt hW h1 ht
    simp only [List.mem_cons, List.not_mem_nil, or_false] at he
    subst he
    exact ⟨t1, t2, h3⟩
  · obtain ⟨e', a1, a2⟩ := List.mem_map.mp he
    subst a2
    have h2 : p ≤ T.1 := h2
    exact ⟨fo_nx_lt hW h1 e' a1, h2, fo_nx_Q hW (sl_B_w (by omega)) h1 h3 e' a1⟩
theorem mk_nx_len {P : pg_P} {T : tx_T} {i p : Nat} {w : Int64} : (mk_nx P T i p w).length ≤ 1 + (if pg_s P i then 1 else 0) := by
  unfold mk_nx
  split
  · simp
  · unfold fw
    rw [List.length_map]
    exact fo_nx_len
theorem mk_inv {P : pg_P} {T : tx_T} {i p : Nat} {w : Int64} {r : mk_S} {V : Nat → Bool} (hW : pg_W P) (h20 : T.1 ≤ 20) (h : mk_I P T ((i, p, w) :: r) V) (hV : V (21 * i + p) = false) : mk_I P T (mk_nx P T i p w ++ r) (fo_mk V (21 * i + p)) ∧ mk_m P (mk_nx P T i p w ++ r) (fo_mk V (21 * i + p)) + 1 ≤ mk_m P ((i, p, w) :: r) V ∧ r.length + (mk_nx P T i p w).length ≤ 505 := by
  obtain ⟨h1, h2⟩ := h
  have h0 := h1 (i, p, w) List.mem_cons_self
  have hi : i < P.1 := h0.1
  have hp : p ≤ T.1 := h0.2.1
  have hv : 21 * i + p < 21 * P.1 := by omega
  have c1 := ct_mark hV (q := fun j => pg_s P (j / 21)) (21 * P.1) hv
  have c3 := ct_mark hV (q := fun _ => true) (21 * P.1) hv
  rw [show (21 * i + p) / 21 = i from by omega] at c1
  have hl := mk_nx_len (P := P) (T := T) (i := i) (p := p) (w := w)
  simp only [List.length_cons] at h2
  have hs : (if pg_s P i = true then 1 else 0) ≤ 1 := by split <;> omega
  refine ⟨⟨fun e he => ?_, ?_⟩, ?_, ?_⟩
  · rcases List.mem_append.mp he with he | he
    · exact mk_nx_ok hW h20 h0 e he
    · exact h1 e (List.mem_cons_of_mem _ he)
  · show (mk_nx P T i p w ++ r).length + ct (fun j => !(decide (j = 21 * i + p) || V j) && pg_s P (j / 21)) (21 * P.1) ≤ 505
    rw [List.length_append]
    omega
  · unfold mk_m
    show (mk_nx P T i p w ++ r).length + 2 * ct (fun j => !(decide (j = 21 * i + p) || V j) && true) (21 * P.1) + 1 ≤ _
    rw [List.length_append, List.length_cons]
    rw [if_pos rfl] at c3
    omega
  · omega
theorem mk_m0 {P : pg_P} {V : Nat → Bool} (hW : pg_W P) {e : Nat × Nat × Int64} : mk_m P [e] V ≤ 2059 := by
  have h2 := hW.2.1
  have h4 := ct_le (fun j => !V j && true) (21 * P.1)
  unfold mk_m
  simp only [List.length_cons, List.length_nil]
  omega
theorem mk_I0 {P : pg_P} {T : tx_T} {V : Nat → Bool} {e : Nat × Nat × Int64} (hW : pg_W P) (h : mk_ok P T e) : mk_I P T [e] V := by
  refine ⟨fun e' he => ?_, ?_⟩
  · simp only [List.mem_cons, List.not_mem_nil, or_false] at he; subst he; exact h
  · have h1 := hW.2.2.2.1
    have h3 := ct_mono (q := fun j => !V j && pg_s P (j / 21)) (r := fun j => pg_s P (j / 21)) (21 * P.1) (fun j _ hj => by simp at hj; exact hj.2)
    rw [ct_21] at h3
    simp only [List.length_cons, List.length_nil]
    omega
theorem mk_res {P : pg_P} {T : tx_T} (hW : pg_W P) (h20 : T.1 ≤ 20) : ∀ (k : Nat) (s : mk_S) (V : Nat → Bool) (c : Nat), mk_I P T s V → (mk_f P T k s V c).1 = 0 ∨ ∃ p, p ≤ T.1 ∧ sl_g (mk_f P T k s V c).1 1 = nI p ∧ sl_B 0 20 (mk_f P T k s V c).1
  | 0, _, _, _, _ => Or.inl rfl
  | k + 1, [], _, _, _ => Or.inl rfl
  | k + 1, (i, p, w) :: r, V, c, h => by
    rw [mk_fc]
    have h0 := h.1 (i, p, w) List.mem_cons_self
    have hp : p ≤ T.1 := h0.2.1
    by_cases hV : V (21 * i + p) = true
    · rw [if_pos hV]
      refine mk_res hW h20 k r V c ⟨fun e he => h.1 e (List.mem_cons_of_mem _ he), ?_⟩
      have := h.2
      rw [List.length_cons] at this
      omega
    · rw [if_neg hV]
      by_cases hk : P.2.1 i = 7
      · rw [if_pos hk]
        refine Or.inr ⟨p, hp, ?_, ?_⟩
        · rw [sl_gw (by omega) (by omega) (by omega), if_pos rfl]
        · obtain ⟨b, b1, b2, b3⟩ := h0.2.2
          exact ⟨b, b1, b2, by rw [sl_gw (by omega) (by omega) (by omega), if_neg (by omega)]; exact b3⟩
      · rw [if_neg hk]
        exact mk_res hW h20 k _ _ _ (mk_inv hW h20 h (by simpa using hV)).1
/-- 2059, so that nothing counts it out -/
noncomputable def mk_N : { k : Nat // k = 2059 } := Classical.choice ⟨⟨2059, rfl⟩⟩
/-- all beginnings, one after the other -/
noncomputable def mk_l (P : pg_P) (T : tx_T) : Nat → Nat → (Nat → Bool) → Nat → Int64 × Nat
  | 0, _, _, c => (0, c)
  | k + 1, fr, V, c => if (mk_f P T mk_N.1 [(0, fr, sl_w 0 0 fr)] V c).1 = 0 then mk_l P T k (fr + 1) (mk_f P T mk_N.1 [(0, fr, sl_w 0 0 fr)] V c).2.1 (mk_f P T mk_N.1 [(0, fr, sl_w 0 0 fr)] V c).2.2 else ((mk_f P T mk_N.1 [(0, fr, sl_w 0 0 fr)] V c).1, (mk_f P T mk_N.1 [(0, fr, sl_w 0 0 fr)] V c).2.2)
noncomputable def mk_F (P : pg_P) (T : tx_T) : Int64 × Nat := mk_l P T (T.1 + 1) 0 (fun _ => false) 0
/-! the class's Marks -/
/-- nothing outside of lo .. hi has changed -/
def kq_K (lo hi : Nat) (I I' : Nat → Nat → Int32) (J J' : Nat → Nat → Int64) : Prop := ∀ a k, (a < lo ∨ hi < a) → I' a k = I a k ∧ J' a k = J a k
def ly_K (sh : Nat → Option (Nat × Nat)) (R : Nat → Nat → Option Nat) (M : Nat) : Prop := sh M = some (6, 0) ∧ sh (M + 1) = some (1001, 21) ∧ sh (M + 2) = some (1000, 505) ∧ sh (M + 3) = some (1000, 505) ∧ sh (M + 4) = some (1001, 505) ∧ R M 0 = some (M + 1) ∧ R M 1 = some (M + 2) ∧ R M 2 = some (M + 3) ∧ R M 3 = some (M + 4)
def wt_R (I : Nat → Nat → Int32) (J : Nat → Nat → Int64) (M : Nat) : mk_S → Prop
  | [] => True
  | e :: r => I (M + 2) r.length = nI e.1 ∧ I (M + 3) r.length = nI e.2.1 ∧ J (M + 4) r.length = e.2.2 ∧ wt_R I J M r
theorem wt_R_mono {I I' : Nat → Nat → Int32} {J J' : Nat → Nat → Int64} {M : Nat} : ∀ (r : mk_S), (∀ k, k < r.length → I' (M + 2) k = I (M + 2) k ∧ I' (M + 3) k = I (M + 3) k ∧ J' (M + 4) k = J (M + 4) k) → wt_R I J M r → wt_R I' J' M r
  | [], _, _ => trivial
  | e :: r, h, ⟨h1, h2, h3, h4⟩ => by
    have hh := h r.length (by simp)
    exact ⟨hh.1.trans h1, hh.2.1.trans h2, hh.2.2.trans h3, wt_R_mono r (fun k hk => h k (by simp; omega)) h4⟩
def mv_R (J : Nat → Nat → Int64) (M : Nat) (V : Nat → Bool) : Prop := ∀ i p, i < 49 → p < 21 → mk_b (J (M + 1) p) i = V (21 * i + p)
def ma_R (I : Nat → Nat → Int32) (J : Nat → Nat → Int64) (M : Nat) (s : mk_S) (V : Nat → Bool) (c : Nat) : Prop := I M 4 = nI s.length ∧ wt_R I J M s ∧ mv_R J M V ∧ I M 5 = nI c
section MA
variable {sh : Nat → Option (Nat × Nat)} {I I' : Nat → Nat → Int32} {J J' : Nat → Nat → Int64} {R : Nat → Nat → Option Nat} {n g x M lo hi : Nat} {P : pg_P} {T : tx_T}
theorem kq_refl : kq_K lo hi I I J J := fun _ _ _ => ⟨rfl, rfl⟩
theorem kq_trans {I2 : Nat → Nat → Int32} {J2 : Nat → Nat → Int64} (h : kq_K lo hi I I' J J') (k : kq_K lo hi I' I2 J' J2) : kq_K lo hi I I2 J J2 := fun a j h1 => ⟨(k a j h1).1.trans (h a j h1).1, (k a j h1).2.trans (h a j h1).2⟩
theorem pg_R_q (h : kq_K lo hi I I' J J') (d : g + 3 < lo ∨ hi < g) (hp : pg_R I g P) : pg_R I' g P := by
  obtain ⟨p0, p1, p2⟩ := hp
  refine ⟨(h g 3 (by omega)).1.trans p0, p1, fun i hi => ?_⟩
  obtain ⟨a, b, c⟩ := p2 i hi
  exact ⟨(h _ i (by omega)).1.trans a, (h _ i (by omega)).1.trans b, (h _ i (by omega)).1.trans c⟩
theorem tx_R_q (h : kq_K lo hi I I' J J') (d : x + 1 < lo ∨ hi < x) (ht : tx_R I x T) : tx_R I' x T := by
  obtain ⟨t1, t2, t3⟩ := ht
  exact ⟨(h _ _ (by omega)).1.trans t1, t2, fun k hk => ⟨(h _ _ (by omega)).1.trans (t3 k hk).1, (t3 k hk).2⟩⟩
theorem e_Ma_push {i p c : Nat} {w : Int64} {r : mk_S} {V : Nat → Bool} (hl : ly_K sh R M) (h : ma_R I J M r V c) (hr : r.length < 505) :
    ∃ I' J', f_Ma_push M (nI i) (nI p) w (sh, I, J, R, n) = some (sh, I', J', R, n) ∧ ma_R I' J' M ((i, p, w) :: r) V c ∧ kq_K M (M + 4) I I' J J' := by
  obtain ⟨l0, l1, l2, l3, l4, r0, r1, r2, r3⟩ := hl
  obtain ⟨h1, h2, h3, h4⟩ := h
  have x1 := ev_ix (N := 505) (k := r.length) hr (by omega)
  have e1 : f_Ma_push M (nI i) (nI p) w (sh, I, J, R, n) = some (sh, hv_u (hv_u (hv_u I (M + 2) r.length (nI i)) (M + 3) r.length (nI p)) M 4 (nI (r.length + 1)), hv_u J (M + 4) r.length w, R, n) := by
    unfold f_Ma_push
    simp only [ev_b, ev_ob l0, ev_I, ev_R, ev_sI, ev_sJ, h1, r1, r2, r3, ev_ar0 l2, ev_ar0 l3, ev_ar1 l4, x1, ev_ua (show M ≠ M + 2 by omega), ev_ua (show M ≠ M + 3 by omega), nI_1]
    rw [if_neg (nI_pos (by omega)), if_neg (by rw [li_505, nI_leI (by omega) (by omega)]; omega)]
    rfl
  refine ⟨_, _, e1, ⟨ev_us, ⟨?_, ?_, ev_us, wt_R_mono r (fun k hk => ⟨?_, ?_, ?_⟩) h2⟩, fun i' p' a1 a2 => ?_, ?_⟩, fun a k ha => ⟨?_, ?_⟩⟩
  · rw [ev_ua (by omega), ev_ua (by omega), ev_us]
  · rw [ev_ua (by omega), ev_us]
  · rw [ev_ua (by omega), ev_ua (by omega), ev_uk (by omega)]
  · rw [ev_ua (by omega), ev_uk (by omega), ev_ua (by omega)]
  · rw [ev_uk (by omega)]
  · rw [ev_ua (by omega)]; exact h3 i' p' a1 a2
  · rw [ev_uk (by omega), ev_ua (by omega), ev_ua (by omega)]; exact h4
  · rw [ev_ua (by omega), ev_ua (by omega), ev_ua (by omega)]
  · rw [ev_ua (by omega)]
theorem e_Ma_mark0 {i p c : Nat} {s : mk_S} {V : Nat → Bool} (hl : ly_K sh R M) (h : ma_R I J M s V c) (hi : i < 49) (hp : p < 21) (hV : V (21 * i + p) = true) : f_Ma_mark M (nI i) (nI p) (sh, I, J, R, n) = some (0, (sh, I, J, R, n)) := by
  obtain ⟨l0, l1, l2, l3, l4, r0, r1, r2, r3⟩ := hl
  have x1 := ev_ix (N := 21) (k := p) hp (by omega)
  unfold f_Ma_mark
  rw [if_neg (nI_pos (by omega)), if_pos (by rw [li_20, nI_leI (by omega) (by omega)]; omega)]
  simp only [ev_b, ev_ob l0, ev_J, ev_R, r0, ev_ar1 l1, x1]
  rw [if_neg (by rw [mk_t (show i < 64 by omega), h.2.2.1 i p hi hp, hV]; simp)]
theorem e_Ma_mark1 {i p c : Nat} {s : mk_S} {V : Nat → Bool} (hl : ly_K sh R M) (h : ma_R I J M s V c) (hi : i < 49) (hp : p < 21) (hV : V (21 * i + p) = false) :
    ∃ I' J', f_Ma_mark M (nI i) (nI p) (sh, I, J, R, n) = some (1, (sh, I', J', R, n)) ∧ ma_R I' J' M s (fo_mk V (21 * i + p)) (c + 1) ∧ kq_K M (M + 4) I I' J J' := by
  obtain ⟨l0, l1, l2, l3, l4, r0, r1, r2, r3⟩ := hl
  obtain ⟨h1, h2, h3, h4⟩ := h
  have x1 := ev_ix (N := 21) (k := p) hp (by omega)
  unfold f_Ma_mark
  rw [if_neg (nI_pos (by omega)), if_pos (by rw [li_20, nI_leI (by omega) (by omega)]; omega)]
  simp only [ev_b, ev_ob l0, ev_J, ev_R, r0, ev_ar1 l1, x1]
  rw [if_pos (by rw [mk_t (show i < 64 by omega), h3 i p hi hp, hV])]
  simp only [ev_sJ, ev_sI, ev_I, h4, nI_1]
  refine ⟨_, _, rfl, ⟨?_, wt_R_mono s (fun k hk => ⟨?_, ?_, ?_⟩) h2, fun i' p' a1 a2 => ?_, ev_us⟩, fun a k ha => ⟨?_, ?_⟩⟩
  · rw [ev_uk (by omega)]; exact h1
  · rw [ev_ua (by omega)]
  · rw [ev_ua (by omega)]
  · rw [ev_ua (by omega)]
  · by_cases e : p' = p
    · subst e
      rw [ev_us, mk_o (by omega) (by omega), h3 i' p' a1 a2]
      unfold fo_mk
      congr 1
      exact decide_eq_decide.mpr (by omega)
    · rw [ev_uk e, h3 i' p' a1 a2]
      unfold fo_mk
      rw [decide_eq_false (by omega)]; rfl
  · rw [ev_ua (by omega)]
  · rw [ev_ua (by omega)]
theorem e_Ma_step {i p c : Nat} {w : Int64} {r : mk_S} {V : Nat → Bool} (hl : ly_K sh R M) (hG : ly_P sh R g) (hX : ly_X sh R x) (r6 : R M 6 = some g) (r7 : R M 7 = some x) (dg : g + 3 < M ∨ M + 4 < g) (hp : pg_R I g P) (ht : tx_R I x T) (hW : pg_W P) (hi : i < P.1) (hpT : p ≤ T.1) (hr : r.length + (mk_nx P T i p w).length ≤ 505) (hk7 : P.2.1 i ≠ 7) (h : ma_R I J M r V c) :
    ∃ I' J', f_Ma_step M (nI i) (nI p) w (sh, I, J, R, n) = some (sh, I', J', R, n) ∧ ma_R I' J' M (mk_nx P T i p w ++ r) V c ∧ kq_K M (M + 4) I I' J J' := by
  have t20 := ht.2.1
  have hn49 := hW.2.1
  obtain ⟨w7, wf, w2, w3, w4, w0⟩ := hW.2.2.1 i hi
  have l0 := hl.1
  unfold f_Ma_step
  simp only [ev_b, ev_ob l0, ev_R, r6, ev_ob hG.1, e_Pr_kindAt hG hp hi]
  have hcs : P.2.1 i = 2 ∨ P.2.1 i = 3 ∨ P.2.1 i = 4 ∨ P.2.1 i = 5 ∨ P.2.1 i = 6 ∨ P.2.1 i < 2 := by omega
  have ntk : 2 ≤ P.2.1 i → tk P T i p = false := fun h => by unfold tk; exact decide_eq_false (by omega)
  rcases hcs with hk | hk | hk | hk | hk | hk
  · have hnx : mk_nx P T i p w = [(P.2.2.1 i, p, w), (P.2.2.2 i, p, w)] := by
      unfold mk_nx; rw [ntk (by omega)]; simp [fw, fo_nx, hk]
    rw [hnx] at hr ⊢
    simp only [List.length_cons, List.length_nil] at hr
    rw [if_pos (by rw [hk]; rfl)]
    obtain ⟨I1, J1, e1, q1, K1⟩ := e_Ma_push (n := n) (i := P.2.2.2 i) (p := p) (w := w) hl h (by omega)
    obtain ⟨I2, J2, e2, q2, K2⟩ := e_Ma_push (n := n) (i := P.2.2.1 i) (p := p) (w := w) hl q1 (by simp only [List.length_cons]; omega)
    simp only [e_Pr_yAt hG hp hi, ev_b, ev_ob l0, e1, ev_R, r6, ev_ob hG.1, e_Pr_xAt hG (pg_R_q K1 dg hp) hi, e2]
    exact ⟨I2, J2, rfl, q2, kq_trans K1 K2⟩
  · have hnx : mk_nx P T i p w = [(P.2.2.1 i, p, w)] := by
      unfold mk_nx; rw [ntk (by omega)]; simp [fw, fo_nx, hk]
    rw [hnx] at hr ⊢
    simp only [List.length_cons, List.length_nil] at hr
    rw [if_neg (by rw [hk]; decide), if_pos (by rw [hk]; rfl)]
    obtain ⟨I1, J1, e1, q1, K1⟩ := e_Ma_push (n := n) (i := P.2.2.1 i) (p := p) (w := w) hl h (by omega)
    simp only [e_Pr_xAt hG hp hi, ev_b, ev_ob l0, e1]
    exact ⟨I1, J1, rfl, q1, K1⟩
  · have hnx : mk_nx P T i p w = [(i + 1, p, sl_w w (P.2.2.1 i) p)] := by
      unfold mk_nx; rw [ntk (by omega)]; simp [fw, fo_nx, hk]
    rw [hnx] at hr ⊢
    simp only [List.length_cons, List.length_nil] at hr
    rw [if_neg (by rw [hk]; decide), if_neg (by rw [hk]; decide), if_pos (by rw [hk]; rfl)]
    obtain ⟨I1, J1, e1, q1, K1⟩ := e_Ma_push (n := n) (i := i + 1) (p := p) (w := sl_w w (P.2.2.1 i) p) hl h (by omega)
    simp only [e_Pr_xAt hG hp hi, ev_b, ev_ob l0, sl_wf, nI_1, e1]
    exact ⟨I1, J1, rfl, q1, K1⟩
  · rw [if_neg (by rw [hk]; decide), if_neg (by rw [hk]; decide), if_neg (by rw [hk]; decide), if_pos (by rw [hk]; rfl)]
    by_cases hz : p = 0
    · have hnx : mk_nx P T i p w = [(i + 1, p, w)] := by
        unfold mk_nx; rw [ntk (by omega)]; simp [fw, fo_nx, hk, hz]
      rw [hnx] at hr ⊢
      simp only [List.length_cons, List.length_nil] at hr
      obtain ⟨I1, J1, e1, q1, K1⟩ := e_Ma_push (n := n) (i := i + 1) (p := p) (w := w) hl h (by omega)
      rw [if_pos (by rw [hz]; rfl)]
      simp only [ev_b, nI_1, e1]
      exact ⟨I1, J1, rfl, q1, K1⟩
    · have hnx : mk_nx P T i p w = [] := by
        unfold mk_nx; rw [ntk (by omega)]; simp [fw, fo_nx, hk, hz]
      rw [hnx]
      rw [if_neg (by rw [li_0, nI_eq (by omega) (by omega)]; exact hz)]
      exact ⟨I, J, rfl, h, kq_refl⟩
  · rw [if_neg (by rw [hk]; decide), if_neg (by rw [hk]; decide), if_neg (by rw [hk]; decide), if_neg (by rw [hk]; decide), if_pos (by rw [hk]; rfl)]
    simp only [r7, ev_ob hX.1, ev_b, e_Tx_length hX ht]
    by_cases hz : p = T.1
    · have hnx : mk_nx P T i p w = [(i + 1, p, w)] := by
        unfold mk_nx; rw [ntk (by omega)]; simp [fw, fo_nx, hk, tx_r, hz]
      rw [hnx] at hr ⊢
      simp only [List.length_cons, List.length_nil] at hr
      obtain ⟨I1, J1, e1, q1, K1⟩ := e_Ma_push (n := n) (i := i + 1) (p := p) (w := w) hl h (by omega)
      rw [if_pos (by rw [hz])]
      simp only [ev_ob l0, ev_b, nI_1, e1]
      exact ⟨I1, J1, rfl, q1, K1⟩
    · have hnx : mk_nx P T i p w = [] := by
        unfold mk_nx; rw [ntk (by omega)]; simp [fw, fo_nx, hk, tx_r, hz]
      rw [hnx]
      rw [if_neg (by rw [nI_eq (by omega) (by omega)]; exact hz)]
      exact ⟨I, J, rfl, h, kq_refl⟩
  · rw [if_neg (by rw [li_2, nI_eq (by omega) (by omega)]; omega), if_neg (by rw [li_3, nI_eq (by omega) (by omega)]; omega), if_neg (by rw [li_4, nI_eq (by omega) (by omega)]; omega), if_neg (by rw [li_5, nI_eq (by omega) (by omega)]; omega), if_neg (by rw [li_6, nI_eq (by omega) (by omega)]; omega)]
    simp only [r7, ev_ob hX.1, ev_b, e_Tx_letterAt hX ht (show p < 31 by omega), ev_ob hG.1, e_Pr_takes hG hp hW (fun k hk => (ht.2.2 k hk).2) hi]
    by_cases htk : tk P T i p = true
    · have hnx : mk_nx P T i p w = [(i + 1, p + 1, w)] := by unfold mk_nx; rw [if_pos htk]
      rw [hnx] at hr ⊢
      simp only [List.length_cons, List.length_nil] at hr
      obtain ⟨I1, J1, e1, q1, K1⟩ := e_Ma_push (n := n) (i := i + 1) (p := p + 1) (w := w) hl h (by omega)
      rw [htk, if_neg (show ¬ bI true = 0 by decide)]
      simp only [ev_ob l0, ev_b, nI_1, e1]
      exact ⟨I1, J1, rfl, q1, K1⟩
    · have htk' : tk P T i p = false := by simpa using htk
      have hnx : mk_nx P T i p w = [] := by
        unfold mk_nx
        rw [if_neg htk]
        unfold fo_nx
        rw [if_neg (by omega), if_neg (by omega), if_neg (by omega), if_neg (by omega), if_neg (by omega)]
        rfl
      rw [hnx, htk', if_pos (show bI false = 0 by decide)]
      exact ⟨I, J, rfl, h, kq_refl⟩
theorem e_Ma_loop (hl : ly_K sh R M) (hG : ly_P sh R g) (hX : ly_X sh R x) (r6 : R M 6 = some g) (r7 : R M 7 = some x) (dg : g + 3 < M ∨ M + 4 < g) (dx : x + 1 < M ∨ M + 4 < x) (hW : pg_W P) :
    ∀ (k N d : Nat) (s : mk_S) (V : Nat → Bool) (c : Nat) (I : Nat → Nat → Int32) (J : Nat → Nat → Int64), k < N → d + mk_m P s V ≤ 2059 → mk_m P s V ≤ k → mk_I P T s V → pg_R I g P → tx_R I x T → ma_R I J M s V c →
    ∃ I' J' s', ((L_Ma_findFrom_17 N (some M) (nI d) (sh, I, J, R, n)).bind fun e24r => e24r.elim (fun e24 => some ((0 : Int64), e24)) (fun w => some w)) = some ((mk_f P T k s V c).1, (sh, I', J', R, n)) ∧ ma_R I' J' M s' (mk_f P T k s V c).2.1 (mk_f P T k s V c).2.2 ∧ kq_K M (M + 4) I I' J J'
  | k, 0, _, _, _, _, _, _, h, _, _, _, _, _, _ => by omega
  | k, N + 1, d, [], V, c, I, J, hN, hd, hm, hI, hp, ht, h => by
    have h1 : I M 4 = nI 0 := h.1
    rw [L_Ma_findFrom_17, mk_fn]
    refine ⟨I, J, [], ?_, h, kq_refl⟩
    by_cases hd9 : 2059 ≤ nI d
    · rw [if_pos hd9]; rfl
    · rw [if_neg hd9, ev_ob hl.1, ev_b, ev_I, h1, if_pos (by decide)]; rfl
  | 0, N + 1, d, e :: r, V, c, I, J, hN, hd, hm, hI, hp, ht, h => by
    unfold mk_m at hm
    rw [List.length_cons] at hm
    omega
  | k + 1, N + 1, d, (i, p, w) :: r, V, c, I, J, hN, hd, hm, hI, hp, ht, h => by
    obtain ⟨l0, l1, l2, l3, l4, r0, r1, r2, r3⟩ := hl
    have t20 := ht.2.1
    have hn49 := hW.2.1
    obtain ⟨h1, ⟨q1, q2, q3, q4⟩, h3, h4⟩ := h
    have h0 := hI.1 (i, p, w) List.mem_cons_self
    have hi : i < P.1 := h0.1
    have hpT : p ≤ T.1 := h0.2.1
    have hlen := hI.2
    rw [List.length_cons] at hlen
    have hm1 : 1 ≤ mk_m P ((i, p, w) :: r) V := by unfold mk_m; rw [List.length_cons]; omega
    have h1 : I M 4 = nI (r.length + 1) := h1
    have q1 : I (M + 2) r.length = nI i := q1
    have q2 : I (M + 3) r.length = nI p := q2
    have q3 : J (M + 4) r.length = w := q3
    rw [L_Ma_findFrom_17, if_neg (by rw [li_2059, nI_leI (by omega) (by omega)]; omega)]
    simp only [ev_ob l0, ev_b, ev_I]
    rw [h1, if_neg (by rw [li_0, nI_leI (by omega) (by omega)]; omega), if_neg (by rw [li_505, nI_ltI (by omega) (by omega)]; omega)]
    have x1 := ev_ix (N := 505) (k := r.length) (by omega) (by omega)
    have hR1 : ma_R (hv_u I M 4 (nI r.length)) J M r V c := ⟨ev_us, wt_R_mono r (fun k hk => ⟨by rw [ev_ua (by omega)], by rw [ev_ua (by omega)], rfl⟩) q4, h3, by rw [ev_uk (by omega)]; exact h4⟩
    have K1 : kq_K M (M + 4) I (hv_u I M 4 (nI r.length)) J J := fun a k ha => ⟨by rw [ev_ua (by omega)], rfl⟩
    simp only [li_1, pk_sub (show 1 ≤ r.length + 1 by omega), Nat.add_sub_cancel, ev_sI, ev_R, ev_I, ev_J, r1, r2, r3, ev_ar0 l2, ev_ar0 l3, ev_ar1 l4, ev_b, ev_us, x1, ev_ua (show M + 2 ≠ M by omega), ev_ua (show M + 3 ≠ M by omega), q1, q2, q3]
    rw [mk_fc]
    by_cases hV : V (21 * i + p) = true
    · rw [e_Ma_mark0 ⟨l0, l1, l2, l3, l4, r0, r1, r2, r3⟩ hR1 (by omega) (by omega) hV, ev_b, if_pos rfl, if_pos hV]
      have hm2 : mk_m P ((i, p, w) :: r) V = mk_m P r V + 1 := by unfold mk_m; rw [List.length_cons]; omega
      obtain ⟨I2, J2, s2, e2, R2, K2⟩ := e_Ma_loop ⟨l0, l1, l2, l3, l4, r0, r1, r2, r3⟩ hG hX r6 r7 dg dx hW k N (d + 1) r V c (hv_u I M 4 (nI r.length)) J (by omega) (by omega) (by omega) ⟨fun e he => hI.1 e (List.mem_cons_of_mem _ he), by omega⟩ (pg_R_q K1 dg hp) (tx_R_q K1 dx ht) hR1
      rw [nI_add]
      exact ⟨I2, J2, s2, e2, R2, kq_trans K1 K2⟩
    · rw [if_neg hV]
      have hV' : V (21 * i + p) = false := by simpa using hV
      obtain ⟨I2, J2, e2, R2, K2⟩ := e_Ma_mark1 (n := n) ⟨l0, l1, l2, l3, l4, r0, r1, r2, r3⟩ hR1 (show i < 49 by omega) (show p < 21 by omega) hV'
      have K12 := kq_trans K1 K2
      rw [e2, ev_b, if_neg (show ¬ (1 : Int32) = 0 by decide)]
      simp only [ev_ob l0, ev_R, ev_b, r6, ev_ob hG.1, e_Pr_kindAt hG (pg_R_q K12 dg hp) hi]
      by_cases hk : P.2.1 i = 7
      · rw [if_pos (by rw [hk]; rfl), if_pos hk]
        have e3 : f_C_withSlot w (nI 1) (nI p) (sh, I2, J2, R, n) = _ := sl_wf w 1 p _
        rw [e3, ev_b]
        exact ⟨I2, J2, r, rfl, R2, K12⟩
      · rw [if_neg (by rw [li_7, nI_eq (by have := (hW.2.2.1 i hi).1; omega) (by omega)]; exact hk), if_neg hk]
        obtain ⟨v1, v2, v3⟩ := mk_inv hW t20 hI hV'
        obtain ⟨I3, J3, e3, R3, K3⟩ := e_Ma_step (n := n) ⟨l0, l1, l2, l3, l4, r0, r1, r2, r3⟩ hG hX r6 r7 dg (pg_R_q K12 dg hp) (tx_R_q K12 dx ht) hW hi hpT v3 hk R2
        have K13 := kq_trans K12 K3
        obtain ⟨I4, J4, s4, e4, R4, K4⟩ := e_Ma_loop ⟨l0, l1, l2, l3, l4, r0, r1, r2, r3⟩ hG hX r6 r7 dg dx hW k N (d + 1) (mk_nx P T i p w ++ r) (fo_mk V (21 * i + p)) (c + 1) I3 J3 (by omega) (by omega) (by omega) v1 (pg_R_q K13 dg hp) (tx_R_q K13 dx ht) R3
        rw [e3, ev_b, nI_add]
        exact ⟨I4, J4, s4, e4, R4, kq_trans K13 K4⟩
theorem e_Ma_findFrom {fr c : Nat} {s : mk_S} {V : Nat → Bool} (hl : ly_K sh R M) (hG : ly_P sh R g) (hX : ly_X sh R x) (r6 : R M 6 = some g) (r7 : R M 7 = some x) (dg : g + 3 < M ∨ M + 4 < g) (dx : x + 1 < M ∨ M + 4 < x) (hW : pg_W P) (hp : pg_R I g P) (ht : tx_R I x T) (hfr : fr ≤ T.1) (h : ma_R I J M s V c) :
    ∃ I' J' s', f_Ma_findFrom M (nI fr) (sh, I, J, R, n) = some ((mk_f P T mk_N.1 [(0, fr, sl_w 0 0 fr)] V c).1, (sh, I', J', R, n)) ∧ ma_R I' J' M s' (mk_f P T mk_N.1 [(0, fr, sl_w 0 0 fr)] V c).2.1 (mk_f P T mk_N.1 [(0, fr, sl_w 0 0 fr)] V c).2.2 ∧ kq_K M (M + 4) I I' J J' := by
  have t20 := ht.2.1
  obtain ⟨h1, h2, h3, h4⟩ := h
  have l0 := hl.1
  have hR0 : ma_R (hv_u I M 4 0) J M [] V c := ⟨by rw [ev_us]; rfl, trivial, h3, by rw [ev_uk (by omega)]; exact h4⟩
  have K0 : kq_K M (M + 4) I (hv_u I M 4 0) J J := fun a k ha => ⟨by rw [ev_ua (by omega)], rfl⟩
  obtain ⟨I1, J1, e1, R1, K1⟩ := e_Ma_push (n := n) (i := 0) (p := fr) (w := sl_w 0 0 fr) hl hR0 (by simp)
  have K01 := kq_trans K0 K1
  have h0 : mk_ok P T (0, fr, sl_w 0 0 fr) := ⟨hW.1, hfr, sl_B_le (show fr ≤ 20 by omega) (sl_B_0 (by omega) (Nat.zero_le _))⟩
  have hm0 := mk_m0 (V := V) hW (e := (0, fr, sl_w 0 0 fr))
  obtain ⟨I2, J2, s2, e2, R2, K2⟩ := e_Ma_loop (n := n) hl hG hX r6 r7 dg dx hW mk_N.1 100000 0 [(0, fr, sl_w 0 0 fr)] V c I1 J1 (by rw [mk_N.2]; omega) (by omega) (by rw [mk_N.2]; exact hm0) (mk_I0 hW h0) (pg_R_q K01 dg hp) (tx_R_q K01 dx ht) R1
  have e1' : f_Ma_push M 0 (nI fr) (sl_w 0 0 fr) (sh, hv_u I M 4 0, J, R, n) = some (sh, I1, J1, R, n) := e1
  have e0 : f_C_withSlot 0 0 (nI fr) (sh, hv_u I M 4 0, J, R, n) = some (sl_w 0 0 fr, (sh, hv_u I M 4 0, J, R, n)) := sl_wf 0 0 fr _
  unfold f_Ma_findFrom f_C_slotsFrom
  simp only [ev_b, ev_ob l0, ev_sI, e0, e1']
  exact ⟨I2, J2, s2, e2, R2, kq_trans K01 K2⟩
theorem e_Ma_floop (hl : ly_K sh R M) (hG : ly_P sh R g) (hX : ly_X sh R x) (r6 : R M 6 = some g) (r7 : R M 7 = some x) (dg : g + 3 < M ∨ M + 4 < g) (dx : x + 1 < M ∨ M + 4 < x) (hW : pg_W P) :
    ∀ (k N fr : Nat) (s : mk_S) (V : Nat → Bool) (c : Nat) (I : Nat → Nat → Int32) (J : Nat → Nat → Int64), k < N → fr + k = T.1 + 1 → pg_R I g P → tx_R I x T → ma_R I J M s V c →
    ∃ I' J', ((L_Ma_find_25 N (some M) (nI fr) (sh, I, J, R, n)).bind fun e11r => e11r.elim (fun e11 => some ((0 : Int64), e11)) (fun w => some w)) = some ((mk_l P T k fr V c).1, (sh, I', J', R, n)) ∧ I' M 5 = nI (mk_l P T k fr V c).2 ∧ kq_K M (M + 4) I I' J J'
  | k, 0, _, _, _, _, _, _, h, _, _, _, _ => by omega
  | 0, N + 1, fr, s, V, c, I, J, hN, hfr, hp, ht, h => by
    have t20 := ht.2.1
    rw [L_Ma_find_25]
    simp only [ev_ob hl.1, ev_b, ev_R, r7, ev_ob hX.1, e_Tx_length hX ht]
    rw [if_pos (by rw [nI_ltI (by omega) (by omega)]; omega)]
    exact ⟨I, J, rfl, h.2.2.2, kq_refl⟩
  | k + 1, N + 1, fr, s, V, c, I, J, hN, hfr, hp, ht, h => by
    have t20 := ht.2.1
    obtain ⟨I1, J1, s1, e1, R1, K1⟩ := e_Ma_findFrom (n := n) hl hG hX r6 r7 dg dx hW hp ht (show fr ≤ T.1 by omega) h
    rw [L_Ma_find_25]
    simp only [ev_ob hl.1, ev_b, ev_R, r7, ev_ob hX.1, e_Tx_length hX ht]
    rw [if_neg (by rw [nI_ltI (by omega) (by omega)]; omega), e1, ev_b]
    unfold mk_l
    by_cases hz : (mk_f P T mk_N.1 [(0, fr, sl_w 0 0 fr)] V c).1 = 0
    · rw [if_pos ((lg_c0 _).mpr hz), if_pos hz]
      obtain ⟨I2, J2, e2, c2, K2⟩ := e_Ma_floop hl hG hX r6 r7 dg dx hW k N (fr + 1) s1 _ _ I1 J1 (by omega) (by omega) (pg_R_q K1 dg hp) (tx_R_q K1 dx ht) R1
      rw [nI_1]
      exact ⟨I2, J2, e2, c2, kq_trans K1 K2⟩
    · rw [if_neg (fun e => hz ((lg_c0 _).mp e)), if_neg hz]
      exact ⟨I1, J1, rfl, R1.2.2.2, K1⟩
theorem e_Ar_fillJ {a K : Nat} {w : Int64} (hs : sh a = some (1001, K)) (hK : K < 90000) : ∃ J', f_Ar_fillJ (some a) w (sh, I, J, R, n) = some (sh, I, J', R, n) ∧ (∀ k, k < K → J' a k = w) ∧ (∀ b k, b ≠ a → J' b k = J b k) := by
  have H : ∀ (j N : Nat) (J : Nat → Nat → Int64), j ≤ K → j < N → ∃ J', L_Ar_fillJ_6 N (some a) w (nI (K - j)) (nI K) (sh, I, J, R, n) = some (sh, I, J', R, n) ∧ (∀ k, K - j ≤ k → k < K → J' a k = w) ∧ (∀ b k, (b ≠ a ∨ k < K - j) → J' b k = J b k) := by
    intro j
    induction j with
    | zero =>
      intro N J _ hN
      match N with
      | 0 => omega
      | N + 1 =>
        rw [L_Ar_fillJ_6, if_pos (by rw [nI_leI (by omega) (by omega)]; omega)]
        exact ⟨J, rfl, fun k h1 h2 => by omega, fun b k _ => rfl⟩
    | succ j ih =>
      intro N J hj hN
      match N with
      | 0 => omega
      | N + 1 =>
        rw [L_Ar_fillJ_6, if_neg (by rw [nI_leI (by omega) (by omega)]; omega), ev_ar1 hs]
        have x1 := ev_ix (N := K) (k := K - (j + 1)) (by omega) (by omega)
        simp only [ev_b, x1, ev_sJ, nI_1]
        rw [show K - (j + 1) + 1 = K - j from by omega]
        obtain ⟨J', e1, a1, a2⟩ := ih N (hv_u J a (K - (j + 1)) w) (by omega) (by omega)
        refine ⟨J', e1, fun k h1 h2 => ?_, fun b k h => ?_⟩
        · by_cases e : k = K - (j + 1)
          · rw [a2 a k (by omega), e, ev_us]
          · exact a1 k (by omega) h2
        · rw [a2 b k (by omega)]
          rcases h with h | h
          · rw [ev_ua h]
          · rw [ev_uk (by omega)]
  obtain ⟨J', e1, a1, a2⟩ := H K 100000 J (Nat.le_refl _) (by omega)
  rw [Nat.sub_self] at e1 a1 a2
  refine ⟨J', ?_, fun k hk => a1 k (Nat.zero_le _) hk, fun b k h => a2 b k (Or.inl h)⟩
  unfold f_Ar_fillJ
  rw [ev_ar1 hs, ev_b]
  have e1' : L_Ar_fillJ_6 100000 (some a) w 0 (nI K) (sh, I, J, R, n) = some (sh, I, J', R, n) := e1
  rw [e1', ev_b]
theorem e_Ma_find (dg : g + 3 < M ∨ M + 4 < g) (dx : x + 1 < M ∨ M + 4 < x) (hW : pg_W P) (hl : ly_K sh R M) (hG : ly_P sh R g) (hX : ly_X sh R x) (hp : pg_R I g P) (ht : tx_R I x T) :
    ∃ I' J' R', f_Ma_find M (some g) (some x) (sh, I, J, R, n) = some ((mk_F P T).1, (sh, I', J', R', n)) ∧ I' M 5 = nI (mk_F P T).2 ∧ ly_K sh R' M ∧ kq_K M (M + 4) I I' J J' ∧ (∀ a k, a ≠ M → R' a k = R a k) := by
  obtain ⟨l0, l1, l2, l3, l4, r0, r1, r2, r3⟩ := hl
  have hKR : ∀ a k, a ≠ M → (hv_u (hv_u R M 6 (some g)) M 7 (some x)) a k = R a k := fun a k h => by rw [ev_ua h, ev_ua h]
  have hl' : ly_K sh (hv_u (hv_u R M 6 (some g)) M 7 (some x)) M := ⟨l0, l1, l2, l3, l4, by rw [ev_uk (by omega), ev_uk (by omega)]; exact r0, by rw [ev_uk (by omega), ev_uk (by omega)]; exact r1, by rw [ev_uk (by omega), ev_uk (by omega)]; exact r2, by rw [ev_uk (by omega), ev_uk (by omega)]; exact r3⟩
  have s6 : (hv_u (hv_u R M 6 (some g)) M 7 (some x)) M 6 = some g := by rw [ev_uk (by omega), ev_us]
  have s7 : (hv_u (hv_u R M 6 (some g)) M 7 (some x)) M 7 = some x := ev_us
  unfold f_Ma_find
  simp only [ev_b, ev_ob l0, ev_sR, ev_sI, ev_R]
  generalize hv_u (hv_u R M 6 (some g)) M 7 (some x) = R1 at hKR hl' s6 s7 ⊢
  have hG' : ly_P sh R1 g := by
    obtain ⟨g0, g1, g2, g3, g4, g5, g6⟩ := hG
    exact ⟨g0, g1, g2, g3, by rw [hKR _ _ (by omega)]; exact g4, by rw [hKR _ _ (by omega)]; exact g5, by rw [hKR _ _ (by omega)]; exact g6⟩
  have hX' : ly_X sh R1 x := ⟨hX.1, hX.2.1, by rw [hKR _ _ (by omega)]; exact hX.2.2⟩
  have K0 : kq_K M (M + 4) I (hv_u I M 5 0) J J := fun a k ha => ⟨by rw [ev_ua (by omega)], rfl⟩
  obtain ⟨J1, e1, a1, a2⟩ := e_Ar_fillJ (I := hv_u I M 5 0) (J := J) (R := R1) (n := n) (w := 0) l1 (by omega)
  have K1 : kq_K M (M + 4) I (hv_u I M 5 0) J J1 := fun a k ha => ⟨by rw [ev_ua (by omega)], a2 _ _ (by omega)⟩
  rw [hl'.2.2.2.2.2.1, e1, ev_b]
  obtain ⟨c0, hc0⟩ : ∃ s : Int32, (hv_u I M 5 0) M 4 = s := ⟨_, rfl⟩
  have H : ∀ (k N fr : Nat) (I : Nat → Nat → Int32), k + fr = T.1 + 1 → k < N → fr ≤ T.1 → pg_R I g P → tx_R I x T → I M 5 = nI 0 → ∃ I' J', ((L_Ma_find_25 N (some M) (nI fr) (sh, I, J1, R1, n)).bind fun e11r => e11r.elim (fun e11 => some ((0 : Int64), e11)) (fun w => some w)) = some ((mk_l P T k fr (fun _ => false) 0).1, (sh, I', J', R1, n)) ∧ I' M 5 = nI (mk_l P T k fr (fun _ => false) 0).2 ∧ kq_K M (M + 4) I I' J1 J' := by
    intro k N fr I hk hN hfr hp ht h5
    have t20 := ht.2.1
    match k, N with
    | 0, _ => omega
    | _, 0 => omega
    | k + 1, N + 1 =>
      -- the first findFrom clears the stack itself
      have hR0 : ma_R (hv_u I M 4 0) J1 M [] (fun _ => false) 0 := ⟨by rw [ev_us]; rfl, trivial, fun i p hi hp => by rw [a1 p hp, mk_0], by rw [ev_uk (by omega)]; exact h5⟩
      have K0 : kq_K M (M + 4) I (hv_u I M 4 0) J1 J1 := fun a k ha => ⟨by rw [ev_ua (by omega)], rfl⟩
      have e0 : f_Ma_findFrom M (nI fr) (sh, I, J1, R1, n) = f_Ma_findFrom M (nI fr) (sh, hv_u I M 4 0, J1, R1, n) := by
        unfold f_Ma_findFrom
        simp only [ev_b, ev_ob l0, ev_sI]
        have : hv_u (hv_u I M 4 0) M 4 0 = hv_u I M 4 0 := by
          funext k a
          unfold hv_u
          split <;> rfl
        rw [this]
      obtain ⟨I1, J2, s1, e1, R2, K1⟩ := e_Ma_findFrom (n := n) hl' hG' hX' s6 s7 dg dx hW (pg_R_q K0 dg hp) (tx_R_q K0 dx ht) hfr hR0
      rw [L_Ma_find_25]
      simp only [ev_ob l0, ev_b, ev_R, s7, ev_ob hX'.1, e_Tx_length hX' ht]
      rw [if_neg (by rw [nI_ltI (by omega) (by omega)]; omega), e0, e1, ev_b]
      have K01 := kq_trans K0 K1
      unfold mk_l
      by_cases hz : (mk_f P T mk_N.1 [(0, fr, sl_w 0 0 fr)] (fun _ => false) 0).1 = 0
      · rw [if_pos ((lg_c0 _).mpr hz), if_pos hz]
        obtain ⟨I2, J3, e2, c2, K2⟩ := e_Ma_floop (n := n) hl' hG' hX' s6 s7 dg dx hW k N (fr + 1) s1 _ _ I1 J2 (by omega) (by omega) (pg_R_q K01 dg hp) (tx_R_q K01 dx ht) R2
        rw [nI_1]
        exact ⟨I2, J3, e2, c2, kq_trans K01 K2⟩
      · rw [if_neg (fun e => hz ((lg_c0 _).mp e)), if_neg hz]
        exact ⟨I1, J2, rfl, R2.2.2.2, K01⟩
  obtain ⟨I2, J2, e2, c2, K2⟩ := H (T.1 + 1) 100000 0 (hv_u I M 5 0) (by omega) (by have := ht.2.1; omega) (Nat.zero_le _) (pg_R_q K0 dg hp) (tx_R_q K0 dx ht) (by rw [ev_us]; rfl)
  have e2' : ((L_Ma_find_25 100000 (some M) 0 (sh, hv_u I M 5 0, J1, R1, n)).bind fun e11r => e11r.elim (fun e11 => some ((0 : Int64), e11)) (fun w => some w)) = _ := e2
  exact ⟨I2, J2, R1, e2', c2, hl', kq_trans K1 K2, hKR⟩
end MA
