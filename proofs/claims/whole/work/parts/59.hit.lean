/-! WHERE THE STATES SAY A MATCH ENDS, A THREAD ALONE ENDS -/
def n6 (P : pg_P) : Nat → Bool := fun e => !decide (P.2.1 e = 6)
noncomputable def lr (P : pg_P) (T : tx_T) (s : Nat) : Nat → List Nat
  | 0 => (ro_F P s (tx_r T s) 0 (fun _ => false, [])).2
  | k + 1 => (ro_g P (s + k + 1) (tx_r T (s + k + 1)) (tkl P (T.2 (s + k))) (tr P (lr P T s k)) (fun _ => false, [])).2
noncomputable def fin (P : pg_P) (T : tx_T) (p : Nat) : Bool := hf P (rws P T p).1 || (decide (p = T.1) && au_b P T (rws P T p).1)
section HT
variable {P : pg_P} {T : tx_T}
theorem nx02 {pl i : Nat} : ro_nx P pl 0 i = ro_nx P pl 2 i := by
  unfold ro_nx fo_nx
  split
  · rfl
  · split
    · rfl
    · split
      · simp only [List.map_cons, List.map_nil]
      · split
        · rfl
        · split
          · rfl
          · rfl
theorem nx21 {pl i j : Nat} (h : j ∈ ro_nx P pl 2 i) : j ∈ ro_nx P pl 1 i := by
  unfold ro_nx fo_nx at h ⊢
  split
  · next h2 => rw [if_pos h2] at h; exact h
  · next h2 =>
    rw [if_neg h2] at h
    split
    · next h3 => rw [if_pos h3] at h; exact h
    · next h3 =>
      rw [if_neg h3] at h
      split
      · next h4 => rw [if_pos h4] at h; simpa using h
      · next h4 =>
        rw [if_neg h4] at h
        split
        · next h5 => rw [if_pos h5] at h; exact h
        · next h5 =>
          rw [if_neg h5] at h
          split at h
          · simp at h
          · cases h
theorem nx12 {pl i j : Nat} (hk : P.2.1 i ≠ 6) (h : j ∈ ro_nx P pl 1 i) : j ∈ ro_nx P pl 2 i := by
  unfold ro_nx fo_nx at h ⊢
  split
  · next h2 => rw [if_pos h2] at h; exact h
  · next h2 =>
    rw [if_neg h2] at h
    split
    · next h3 => rw [if_pos h3] at h; exact h
    · next h3 =>
      rw [if_neg h3] at h
      split
      · next h4 => rw [if_pos h4] at h; simpa using h
      · next h4 =>
        rw [if_neg h4] at h
        split
        · next h5 => rw [if_pos h5] at h; exact h
        · next h5 =>
          rw [if_neg h5, if_neg hk] at h
          cases h
theorem nx6 {pl i : Nat} (hk : P.2.1 i = 6) : ro_nx P pl 1 i = [i + 1] := by
  unfold ro_nx fo_nx
  rw [if_neg (by omega), if_neg (by omega), if_neg (by omega), if_neg (by omega), if_pos hk]
  rfl
theorem ro_n02 {pl : Nat} : ∀ (k : Nat) (st : List Nat) (m : Nat → Bool) (l : List Nat), ro_n P pl 0 k (st, m, l.filter (n6 P)) = ((ro_n P pl 2 k (st, m, l)).1, (ro_n P pl 2 k (st, m, l)).2.1, (ro_n P pl 2 k (st, m, l)).2.2.filter (n6 P))
  | 0, st, m, l => rfl
  | k + 1, [], m, l => by rw [ro_e, ro_e]
  | k + 1, i :: r, m, l => by
    have e1 : ∀ ru x, ro_n P pl ru (k + 1) x = ro_n P pl ru k (ro_1 P pl ru x) := fun _ _ => rfl
    rw [e1, e1, ro_1c, ro_1c]
    by_cases hm : m i = true
    · rw [if_pos hm, if_pos hm, ro_n02 k r m l]
    · rw [if_neg hm, if_neg hm, nx02]
      have e2 : (if fo_en P 0 i then l.filter (n6 P) ++ [i] else l.filter (n6 P)) = (if fo_en P 2 i then l ++ [i] else l).filter (n6 P) := by
        unfold fo_en
        by_cases h6 : P.2.1 i = 6
        · rw [if_pos h6, if_pos h6]
          have : n6 P i = false := by unfold n6; simp [h6]
          simp [List.filter_append, this]
        · rw [if_neg h6, if_neg h6]
          have : n6 P i = true := by unfold n6; simp [h6]
          split
          · rw [List.filter_append, List.filter_cons, if_pos this]; rfl
          · rfl
      rw [e2]
      exact ro_n02 k _ _ _
theorem ro_F02 {pl i : Nat} {m : Nat → Bool} {l : List Nat} : ro_F P pl 0 i (m, l.filter (n6 P)) = ((ro_F P pl 2 i (m, l)).1, (ro_F P pl 2 i (m, l)).2.filter (n6 P)) := by
  unfold ro_F
  rw [ro_n02]
theorem ro_g02 {pl : Nat} {f : Nat → Bool} : ∀ (r : List Nat) (m : Nat → Bool) (l : List Nat), ro_g P pl 0 f r (m, l.filter (n6 P)) = ((ro_g P pl 2 f r (m, l)).1, (ro_g P pl 2 f r (m, l)).2.filter (n6 P))
  | [], m, l => rfl
  | e :: r, m, l => by
    have e1 : ∀ ru x t, ro_g P pl ru f (e :: x) t = ro_g P pl ru f x (if f e then ro_F P pl ru (e + 1) t else t) := fun _ _ _ => rfl
    rw [e1, e1]
    by_cases hf : f e = true
    · rw [if_pos hf, if_pos hf, ro_F02]
      exact ro_g02 r _ _
    · rw [if_neg hf, if_neg hf]
      exact ro_g02 r m l
theorem tkl6 {c e : Nat} (h : tkl P c e = true) : n6 P e = true := by
  unfold tkl at h
  rw [decide_eq_true_eq] at h
  unfold n6
  have : P.2.1 e ≠ 6 := by omega
  simp [this]
theorem trn6 {l : List Nat} : tr P (l.filter (n6 P)) = (tr P l).filter (n6 P) := tr_fil l (fun e _ h => by unfold n6; simp [h])
theorem hfn6 {l : List Nat} : hf P (l.filter (n6 P)) = hf P l := by
  cases h : hf P l with
  | true =>
    obtain ⟨e, h1, h2⟩ := hf_mem.mp h
    exact hf_mem.mpr ⟨e, List.mem_filter.mpr ⟨h1, by unfold n6; simp [h2]⟩, h2⟩
  | false =>
    cases h' : hf P (l.filter (n6 P)) with
    | false => rfl
    | true =>
      obtain ⟨e, h1, h2⟩ := hf_mem.mp h'
      exact absurd h2 (hf_no h (List.mem_filter.mp h1).1)
theorem tx_r0 {p : Nat} (h : p ≠ T.1) : tx_r T p = 0 := if_neg h
theorem tx_r1 {p : Nat} (h : p = T.1) : tx_r T p = 1 := if_pos h
theorem lr_l2 {s : Nat} : ∀ k, s + k < T.1 → lr P T s k = (l2 P T s k).filter (n6 P)
  | 0, h => by
    show (ro_F P s (tx_r T s) 0 (fun _ => false, [])).2 = _
    rw [tx_r0 (by omega)]
    have := ro_F02 (P := P) (pl := s) (i := 0) (m := fun _ => false) (l := [])
    rw [List.filter_nil] at this
    rw [this]
    rfl
  | k + 1, h => by
    have ih := lr_l2 (s := s) k (by omega)
    show (ro_g P (s + k + 1) (tx_r T (s + k + 1)) (tkl P (T.2 (s + k))) (tr P (lr P T s k)) (fun _ => false, [])).2 = _
    rw [tx_r0 (by omega), ih, trn6, ro_g_fil (fun e he => tkl6 he)]
    have := ro_g02 (P := P) (pl := s + k + 1) (f := tkl P (T.2 (s + k))) (tr P (l2 P T s k)) (fun _ => false) []
    rw [List.filter_nil] at this
    rw [this]
    rfl
theorem end_src (hW : pg_W P) {s k : Nat} (h : s + k = T.1) : ∃ st m1 m2, DF P T.1 1 st (fun _ => false) m1 (lr P T s k) ∧ DF P T.1 2 st (fun _ => false) m2 (l2 P T s k) := by
  match k, h with
  | 0, h =>
    have h : s = T.1 := h
    have d2 := DF_F (pl := T.1) (ru := 2) (i := 0) (s := (fun _ => false, [])) hW (ro_J0 hW) hW.1
    refine ⟨[0], (ro_F P T.1 1 0 (fun _ => false, [])).1, (ro_F P T.1 2 0 (fun _ => false, [])).1, ?_, by subst h; exact d2⟩
    have d := DF_F (pl := T.1) (ru := 1) (i := 0) (s := (fun _ => false, [])) hW (ro_J0 hW) hW.1
    show DF P T.1 1 [0] (fun _ => false) _ (ro_F P s (tx_r T s) 0 (fun _ => false, [])).2
    rw [tx_r1 h, h]
    exact d
  | k + 1, h =>
    obtain ⟨m, hJ⟩ := l2J (T := T) hW s k
    obtain ⟨la, da, ea⟩ := DF_g (pl := T.1) (ru := 1) hW (fun e (h : tkl P (T.2 (s + k)) e = true) => tkl7 h) (tr P (l2 P T s k)) (fun _ => false, []) (fun e he => hJ.2 e (tr_mem _ e he)) (ro_J0 hW)
    obtain ⟨lb, db, eb⟩ := DF_g (pl := T.1) (ru := 2) hW (fun e (h : tkl P (T.2 (s + k)) e = true) => tkl7 h) (tr P (l2 P T s k)) (fun _ => false, []) (fun e he => hJ.2 e (tr_mem _ e he)) (ro_J0 hW)
    rw [List.nil_append] at ea eb
    have e1 : lr P T s (k + 1) = la := by
      show (ro_g P (s + k + 1) (tx_r T (s + k + 1)) (tkl P (T.2 (s + k))) (tr P (lr P T s k)) (fun _ => false, [])).2 = la
      rw [tx_r1 (by omega), lr_l2 k (by omega), trn6, ro_g_fil (fun e he => tkl6 he), show s + k + 1 = T.1 from by omega]
      exact ea
    have e2 : l2 P T s (k + 1) = lb := by
      show (ro_g P (s + k + 1) 2 (tkl P (T.2 (s + k))) (tr P (l2 P T s k)) (fun _ => false, [])).2 = lb
      rw [show s + k + 1 = T.1 from by omega]
      exact eb
    rw [← e1] at da
    rw [← e2] at db
    exact ⟨_, _, _, da, db⟩
theorem en7 {ru j : Nat} (h : P.2.1 j = 7) : fo_en P ru j = true := by
  unfold fo_en
  rw [if_neg (by omega)]
  exact decide_eq_true (Or.inr h)
theorem m21 {pl : Nat} {st l1 l2' : List Nat} {m1 m2 : Nat → Bool} (h1 : DF P pl 1 st (fun _ => false) m1 l1) (h2 : DF P pl 2 st (fun _ => false) m2 l2') : ∀ i, m2 i = true → m1 i = true := by
  obtain ⟨c1, c2, -⟩ := DF_cl h1 cl_0
  exact DF_min h2 (fun i hi j hj => c1 i hi j (nx21 hj)) c2
theorem end_a (hW : pg_W P) (h : fin P T T.1 = true) : ∃ s k, s + k = T.1 ∧ hf P (lr P T s k) = true := by
  unfold fin at h
  rw [Bool.or_eq_true] at h
  rcases h with h | h
  · obtain ⟨e, he, h7⟩ := hf_mem.mp h
    obtain ⟨s, k, a, b, g, hsk, hIv, hb⟩ := Iv_all hW T.1 e he
    obtain ⟨st, m1, m2, d1, d2⟩ := end_src hW hsk
    rw [hIv.2.2, List.mem_filter] at hb
    have hm2 := ((DF_mem d2 e).mp (tr_mem _ e hb.1)).1
    exact ⟨s, k, hsk, hf_mem.mpr ⟨e, (DF_mem d1 e).mpr ⟨m21 d1 d2 e hm2, rfl, en7 h7⟩, h7⟩⟩
  · rw [Bool.and_eq_true] at h
    have hI := rwsI (T := T) hW T.1
    obtain ⟨e, he, h7⟩ := hf_mem.mp h.2
    have hf6 : ∀ e, (fun e => decide (P.2.1 e = 6)) e = true → P.2.1 e ≠ 7 := fun e h => by simp only [decide_eq_true_eq] at h; omega
    obtain ⟨la, da, ea⟩ := DF_g (pl := T.1) (ru := 1) hW hf6 (rws P T T.1).1 (fun _ => false, []) hI.2.1 (ro_J0 hW)
    rw [ea, List.nil_append] at he
    have hme := ((DF_mem da e).mp he).1
    let X : Nat → Bool := fun i => @decide (∃ s k st m1 m2, s + k = T.1 ∧ DF P T.1 1 st (fun _ => false) m1 (lr P T s k) ∧ DF P T.1 2 st (fun _ => false) m2 (l2 P T s k) ∧ m1 i = true) (Classical.propDecidable _)
    have hX : ∀ i, X i = true ↔ ∃ s k st m1 m2, s + k = T.1 ∧ DF P T.1 1 st (fun _ => false) m1 (lr P T s k) ∧ DF P T.1 2 st (fun _ => false) m2 (l2 P T s k) ∧ m1 i = true := fun i => @decide_eq_true_iff _ (Classical.propDecidable _)
    have hXe := DF_min (X := X) da (fun i hi j hj => by
      obtain ⟨s, k, st, m1, m2, q1, q2, q3, q4⟩ := (hX i).mp hi
      exact (hX j).mpr ⟨s, k, st, m1, m2, q1, q2, q3, (DF_cl q2 cl_0).1 i q4 j hj⟩) (fun i hi => by
      obtain ⟨e0, h0, h1⟩ := List.mem_map.mp hi
      subst h1
      obtain ⟨h2, h3⟩ := List.mem_filter.mp h0
      have h6 : P.2.1 e0 = 6 := by simpa using h3
      obtain ⟨s, k, a, b, g, hsk, hIv, hb⟩ := Iv_all hW T.1 e0 h2
      obtain ⟨st, m1, m2, d1, d2⟩ := end_src hW hsk
      rw [hIv.2.2, List.mem_filter] at hb
      have hm2 := ((DF_mem d2 e0).mp (tr_mem _ e0 hb.1)).1
      exact (hX _).mpr ⟨s, k, st, m1, m2, hsk, d1, d2, (DF_cl d1 cl_0).1 e0 (m21 d1 d2 e0 hm2) (e0 + 1) (by rw [nx6 h6]; simp)⟩) e hme
    obtain ⟨s, k, st, m1, m2, q1, q2, q3, q4⟩ := (hX e).mp hXe
    exact ⟨s, k, q1, hf_mem.mpr ⟨e, (DF_mem q2 e).mpr ⟨q4, rfl, en7 h7⟩, h7⟩⟩
theorem Iv_sub {s k : Nat} {a b g : List Nat} (h : Iv P T s k a b g) : ∀ e, e ∈ tr P (l2 P T s k) → e ∈ (rws P T (s + k)).1 := fun e he => by
  rw [h.1]
  by_cases ha : e ∈ a
  · simp [ha]
  · have : e ∈ b := by
      rw [h.2.2]
      exact List.mem_filter.mpr ⟨he, by simp [ha]⟩
    simp [this]
theorem Iv_nf {s k : Nat} {a b g : List Nat} (h : Iv P T s k a b g) (hr : hf P (rws P T (s + k)).1 = false) : hf P (l2 P T s k) = false := by
  cases hx : hf P (l2 P T s k) with
  | false => rfl
  | true =>
    rw [← hf_tr] at hx
    obtain ⟨e, h1, h2⟩ := hf_mem.mp hx
    exact absurd h2 (hf_no hr (Iv_sub h e h1))
theorem end_b (hW : pg_W P) {s k : Nat} {a b g : List Nat} (hsk : s + k = T.1) (h : Iv P T s k a b g) (hf0 : fin P T T.1 = false) : hf P (lr P T s k) = false := by
  unfold fin at hf0
  rw [Bool.or_eq_false_iff, decide_eq_true (rfl : T.1 = T.1), Bool.true_and] at hf0
  rw [← hsk] at hf0
  have hn2 := Iv_nf h hf0.1
  have hsub : ∀ e, e ∈ l2 P T s k → e ∈ (rws P T (s + k)).1 := fun e he => Iv_sub h e (by rw [tr_nf _ hn2]; exact he)
  obtain ⟨st, m1, m2, d1, d2⟩ := end_src hW hsk
  have hI := rwsI (T := T) hW (s + k)
  have hf6 : ∀ e, (fun e => decide (P.2.1 e = 6)) e = true → P.2.1 e ≠ 7 := fun e h => by simp only [decide_eq_true_eq] at h; omega
  obtain ⟨la, da, ea⟩ := DF_g (pl := T.1) (ru := 1) hW hf6 (rws P T (s + k)).1 (fun _ => false, []) hI.2.1 (ro_J0 hW)
  cases hx : hf P (lr P T s k) with
  | false => rfl
  | true =>
    exfalso
    obtain ⟨e, h1, h7⟩ := hf_mem.mp hx
    have hm1 := ((DF_mem d1 e).mp h1).1
    obtain ⟨c1, c2, -⟩ := DF_cl da cl_0
    obtain ⟨z1, z2, -⟩ := DF_cl d2 cl_0
    generalize hml : (ro_g P T.1 1 (fun e => decide (P.2.1 e = 6)) (rws P T (s + k)).1 (fun _ => false, [])).1 = ml at *
    have hXe := DF_min (X := fun i => m2 i || ml i) d1 (fun i hi j hj => by
      have hi : (m2 i || ml i) = true := hi
      show (m2 j || ml j) = true
      rw [Bool.or_eq_true] at hi ⊢
      rcases hi with hi | hi
      · by_cases h6 : P.2.1 i = 6
        · rw [nx6 h6] at hj
          simp only [List.mem_cons, List.not_mem_nil, or_false] at hj
          subst hj
          have hen : fo_en P 2 i = true := by unfold fo_en; rw [if_pos h6]; rfl
          have hil : i ∈ l2 P T s k := (DF_mem d2 i).mpr ⟨hi, rfl, hen⟩
          exact Or.inr (c2 _ (List.mem_map.mpr ⟨i, List.mem_filter.mpr ⟨hsub i hil, by simp [h6]⟩, rfl⟩))
        · exact Or.inl (z1 i hi j (nx12 h6 hj))
      · exact Or.inr (c1 i hi j hj)) (fun i hi => by
      show (m2 i || ml i) = true
      rw [z2 i hi]; rfl) e hm1
    have hXe : (m2 e || ml e) = true := hXe
    rw [Bool.or_eq_true] at hXe
    rcases hXe with h | h
    · exact hf_no hn2 ((DF_mem d2 e).mpr ⟨h, rfl, en7 h7⟩) h7
    · have hla : e ∈ la := (DF_mem da e).mpr ⟨h, rfl, en7 h7⟩
      have hab : au_b P T (rws P T (s + k)).1 = true := by
        unfold au_b
        rw [ea, List.nil_append]
        exact hf_mem.mpr ⟨e, hla, h7⟩
      rw [hf0.2] at hab
      cases hab
theorem Iv_on (hW : pg_W P) {s Q : Nat} : ∀ (d k : Nat) (a b g : List Nat), s + k + d = Q → Iv P T s k a b g → (∀ q, s + k < q → q ≤ Q → hf P (rws P T q).1 = false) → ∀ i, i ≤ d → ∃ a b g, Iv P T s (k + i) a b g
  | d, k, a, b, g, hQ, h, hq, 0, _ => ⟨a, b, g, h⟩
  | 0, k, a, b, g, hQ, h, hq, i + 1, hi => by omega
  | d + 1, k, a, b, g, hQ, h, hq, i + 1, hi => by
    obtain ⟨g1, b1, r1, r2, r3, r4⟩ := Iv_step hW h
    have hrow : (rws P T (s + k + 1)).1 = tr P ((ro_g P 1 2 (tkl P (T.2 (s + k))) a (fun _ => false, [])).2 ++ b1 ++ g1) := by
      show tr P (au_r2 P (T.2 (s + k)) (rws P T (s + k))).2 = _
      rw [r1]
    have hfa : hf P (ro_g P 1 2 (tkl P (T.2 (s + k))) a (fun _ => false, [])).2 = false := by
      cases hx : hf P (ro_g P 1 2 (tkl P (T.2 (s + k))) a (fun _ => false, [])).2 with
      | false => rfl
      | true =>
        have := hq (s + k + 1) (by omega) (by omega)
        rw [hrow, hf_tr, hf_a, hf_a, hx] at this
        cases this
    obtain ⟨g', v1, -⟩ := r4 hfa
    obtain ⟨a', b', g'', hh⟩ := Iv_on hW d (k + 1) _ _ g' (by omega) v1 (fun q h1 h2 => hq q (by omega) h2) i (by omega)
    exact ⟨a', b', g'', by rw [show k + (i + 1) = k + 1 + i from by omega]; exact hh⟩
theorem hit_run (hW : pg_W P) {e : Nat} (he : e ≤ T.1) (h : fin P T e = true) (hno : ∀ q, e < q → q ≤ T.1 → fin P T q = false) : ∃ s k, s + k = e ∧ hf P (lr P T s k) = true ∧ ∀ k', k < k' → s + k' ≤ T.1 → hf P (lr P T s k') = false := by
  by_cases heT : e = T.1
  · subst heT
    obtain ⟨s, k, h1, h2⟩ := end_a hW h
    exact ⟨s, k, h1, h2, fun k' h3 h4 => by omega⟩
  · have hf1 : hf P (rws P T e).1 = true := by
      unfold fin at h
      rw [decide_eq_false heT, Bool.false_and, Bool.or_false] at h
      exact h
    obtain ⟨j, hj, h7⟩ := hf_mem.mp hf1
    obtain ⟨s, k, a, b, g, hsk, hIv, hb⟩ := Iv_all hW e j hj
    have hb' := hb
    rw [hIv.2.2, List.mem_filter] at hb'
    have hrq : ∀ q, s + k < q → q ≤ T.1 → hf P (rws P T q).1 = false := fun q h1 h2 => by
      have := hno q (by omega) h2
      unfold fin at this
      rw [Bool.or_eq_false_iff] at this
      exact this.1
    refine ⟨s, k, hsk, ?_, fun k' h3 h4 => ?_⟩
    · rw [lr_l2 k (by omega), hfn6]
      exact hf_mem.mpr ⟨j, tr_mem _ j hb'.1, h7⟩
    · obtain ⟨a', b', g', hIv'⟩ := Iv_on (T := T) hW (Q := T.1) (T.1 - (s + k)) k a b g (by omega) hIv hrq (k' - k) (by omega)
      rw [show k + (k' - k) = k' from by omega] at hIv'
      by_cases hT : s + k' = T.1
      · exact end_b hW hT hIv' (hno T.1 (by omega) (Nat.le_refl _))
      · rw [lr_l2 k' (by omega), hfn6]
        exact Iv_nf hIv' (hrq _ (by omega) h4)
/-! lists, without their slots -/
theorem tk_tkl {e p : Nat} (h : p < T.1) : tk P T e p = tkl P (T.2 p) e := by
  unfold tk tkl
  exact decide_eq_decide.mpr ⟨fun q => q.2, fun q => ⟨h, q⟩⟩
theorem ls_ger {p : Nat} (hp : p < T.1) : ∀ (l : List (Nat × Int64)) (c : Nat) (s : fo_T), er2 (ls_g P T p l c s).2.2 = ro_g P (p + 1) (tx_r T (p + 1)) (tkl P (T.2 p)) (tr P (l.map (fun e => e.1))) (er2 s)
  | [], c, s => rfl
  | (i, w) :: r, c, s => by
    unfold ls_g
    rw [List.map_cons, tr_c]
    by_cases h7 : P.2.1 i = 7
    · rw [if_pos h7, if_pos h7]
      have ht : tkl P (T.2 p) i = false := by
        cases hx : tkl P (T.2 p) i with
        | false => rfl
        | true => exact absurd h7 (tkl7 hx)
      unfold ro_g
      rw [ht]
      rfl
    · rw [if_neg h7, if_neg h7, ls_ger hp r]
      have e1 : ∀ x t, ro_g P (p + 1) (tx_r T (p + 1)) (tkl P (T.2 p)) (i :: x) t = ro_g P (p + 1) (tx_r T (p + 1)) (tkl P (T.2 p)) x (if tkl P (T.2 p) i then ro_F P (p + 1) (tx_r T (p + 1)) (i + 1) t else t) := fun _ _ => rfl
      rw [e1, tk_tkl hp]
      congr 1
      split
      · exact er_F
      · rfl
theorem ls_gw {p : Nat} : ∀ (l : List (Nat × Int64)) (c : Nat) (s : fo_T), (hf P (l.map (fun e => e.1)) = false → (ls_g P T p l c s).1 = 0) ∧ (hf P (l.map (fun e => e.1)) = true → ∃ e, e ∈ l ∧ (ls_g P T p l c s).1 = e.2)
  | [], c, s => ⟨fun _ => rfl, fun h => by cases h⟩
  | (i, w) :: r, c, s => by
    unfold ls_g
    rw [List.map_cons, hf_c]
    by_cases h7 : P.2.1 i = 7
    · rw [if_pos h7, decide_eq_true h7, Bool.true_or]
      exact ⟨fun h => (by cases h), fun _ => ⟨(i, w), List.mem_cons_self, rfl⟩⟩
    · rw [if_neg h7, decide_eq_false h7, Bool.false_or]
      obtain ⟨h1, h2⟩ := ls_gw r (c + 1) (if tk P T i p then fo_F P (p + 1) (tx_r T (p + 1)) (i + 1) w s else s)
      exact ⟨h1, fun h => by obtain ⟨e, q1, q2⟩ := h2 h; exact ⟨e, List.mem_cons_of_mem _ q1, q2⟩⟩
theorem ls_spec (hW : pg_W P) (h20 : T.1 ≤ 20) {s : Nat} : ∀ (k j : Nat) (best : Int64) (c : Nat) (l : List (Nat × Int64)), s + j + k = T.1 + 1 → l.map (fun e => e.1) = lr P T s j ∨ k = 0 → (∀ e, e ∈ l → e.1 < P.1 ∧ sl_B s (s + j) e.2) → (∀ i, j ≤ i → s + i ≤ T.1 → hf P (lr P T s i) = true → (∀ i', i < i' → s + i' ≤ T.1 → hf P (lr P T s i') = false) → (ls_f P T false k (s + j) best c l).1 ≠ 0 ∧ sl_g (ls_f P T false k (s + j) best c l).1 1 = nI (s + i)) ∧ ((∀ i, j ≤ i → s + i ≤ T.1 → hf P (lr P T s i) = false) → (ls_f P T false k (s + j) best c l).1 = best)
  | 0, j, best, c, l, hk, hl, hb => ⟨fun i h1 h2 => by omega, fun _ => rfl⟩
  | k + 1, j, best, c, l, hk, hl, hb => by
    have hl : l.map (fun e => e.1) = lr P T s j := hl.resolve_right (by omega)
    rw [ls_fs]
    have hlo : ∀ b t, ls_o P T false (s + j) b t = t := fun b t => by unfold ls_o; rw [if_neg (by simp)]
    rw [hlo]
    obtain ⟨gI, gw⟩ := ls_gI (T := T) (fr := s) hW (show s + j < 30 by omega) l c fo_0 hb (ls_I0 hW)
    obtain ⟨w0, w1⟩ := ls_gw (P := P) (T := T) (p := s + j) l c fo_0
    rw [hl] at w0 w1
    have hnext : (ls_g P T (s + j) l c fo_0).2.2.2.2.map (fun e => e.1) = lr P T s (j + 1) ∨ k = 0 := by
      by_cases hT : s + j < T.1
      · refine Or.inl ?_
        have := congrArg Prod.snd (ls_ger (P := P) hT l c fo_0)
        rw [hl] at this
        exact this
      · exact Or.inr (by omega)
    have hlt : ∀ e, e ∈ (ls_g P T (s + j) l c fo_0).2.2.2.2 → e.1 < P.1 ∧ sl_B s (s + (j + 1)) e.2 := fun e he => ⟨gI.1.2 e he, gI.2 e he⟩
    obtain ⟨ih1, ih2⟩ := ls_spec hW h20 k (j + 1) (ls_b (ls_g P T (s + j) l c fo_0).1 best (s + j)) (ls_g P T (s + j) l c fo_0).2.1 (ls_g P T (s + j) l c fo_0).2.2.2.2 (by omega) hnext hlt
    refine ⟨fun i h1 h2 h3 h4 => ?_, fun h => ?_⟩
    · by_cases hij : i = j
      · subst hij
        have e1 := ih2 (fun i' q1 q2 => h4 i' (by omega) q2)
        rw [show s + i + 1 = s + (i + 1) from by omega, e1]
        obtain ⟨e, q1, q2⟩ := w1 h3
        obtain ⟨bq, b1, b2, b3⟩ := (hb e q1).2
        have hwn : (ls_g P T (s + i) l c fo_0).1 ≠ 0 := by rw [q2]; exact sl_ne b3 (by omega)
        unfold ls_b
        rw [if_neg hwn]
        refine ⟨?_, by rw [sl_gw (by omega) (by omega) (by omega), if_pos rfl]⟩
        refine sl_ne (p := bq) ?_ (by omega)
        rw [sl_gw (by omega) (by omega) (by omega), if_neg (by omega), q2]
        exact b3
      · exact ih1 i (by omega) h2 h3 h4
    · have e1 := ih2 (fun i' q1 q2 => h i' (by omega) q2)
      rw [show s + j + 1 = s + (j + 1) from by omega, e1]
      unfold ls_b
      rw [if_pos (w0 (h j (Nat.le_refl _) (by omega)))]
theorem hit (hW : pg_W P) (h20 : T.1 ≤ 20) {e : Nat} (he : e ≤ T.1) (h : fin P T e = true) (hno : ∀ q, e < q → q ≤ T.1 → fin P T q = false) : ∃ s, s ≤ e ∧ (ls_F P T false s).1 ≠ 0 ∧ sl_g (ls_F P T false s).1 1 = nI e := by
  obtain ⟨s, k, h1, h2, h3⟩ := hit_run hW he h hno
  refine ⟨s, by omega, ?_⟩
  unfold ls_F
  have hI3 : ls_I P s s (fo_F P s (tx_r T s) 0 (sl_w 0 0 s) fo_0) := ls_IF hW (by omega) hW.1 (sl_B_0 (by omega) (by omega)) (ls_I0 hW)
  have e0 := congrArg Prod.snd (er_F (P := P) (pl := s) (ru := tx_r T s) (i := 0) (w := sl_w 0 0 s) (s := fo_0))
  have := (ls_spec (T := T) hW h20 (s := s) (T.1 + 1 - s) 0 0 0 (fo_F P s (tx_r T s) 0 (sl_w 0 0 s) fo_0).2.2 (by omega) (Or.inl e0) (fun e he => ⟨hI3.1.2 e he, hI3.2 e he⟩)).1 k (by omega) (by omega) h2 h3
  rw [h1] at this
  exact this
end HT
