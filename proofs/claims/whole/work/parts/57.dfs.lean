/-! FOLLOWING AS A SEARCH IN DEPTH -/
/-- following all of st with m marked marks m' and finds l -/
def DF (P : pg_P) (pl ru : Nat) (st : List Nat) (m m' : Nat → Bool) (l : List Nat) : Prop := ∃ k, ro_n P pl ru k (st, m, []) = ([], m', l)
def cl (P : pg_P) (pl ru : Nat) (X : Nat → Bool) : Prop := ∀ i, X i = true → ∀ j, j ∈ ro_nx P pl ru i → X j = true
section DS
variable {P : pg_P} {pl ru : Nat}
theorem ro_add : ∀ (a b : Nat) (s : ro_S), ro_n P pl ru (a + b) s = ro_n P pl ru b (ro_n P pl ru a s)
  | 0, b, s => by rw [Nat.zero_add]; rfl
  | a + 1, b, s => by
    rw [Nat.succ_add]
    show ro_n P pl ru (a + b) (ro_1 P pl ru s) = ro_n P pl ru b (ro_n P pl ru a (ro_1 P pl ru s))
    exact ro_add a b _
theorem DF_nil {m : Nat → Bool} : DF P pl ru [] m m [] := ⟨0, rfl⟩
theorem DF_nil' {m m' : Nat → Bool} {l : List Nat} (h : DF P pl ru [] m m' l) : m' = m ∧ l = [] := by
  obtain ⟨k, hk⟩ := h
  rw [ro_e] at hk
  injection hk with h1 h2
  injection h2 with h2 h3
  exact ⟨h2.symm, h3.symm⟩
theorem DF_app1 : ∀ (k : Nat) (s1 s2 : List Nat) (m m1 : Nat → Bool) (l l1 : List Nat), ro_n P pl ru k (s1, m, l) = ([], m1, l1) → ∃ k', ro_n P pl ru k' (s1 ++ s2, m, l) = (s2, m1, l1)
  | k, [], s2, m, m1, l, l1, h => by
    rw [ro_e] at h
    injection h with h1 h2
    injection h2 with h2 h3
    subst h2 h3
    exact ⟨0, rfl⟩
  | 0, i :: r, s2, m, m1, l, l1, h => by
    have h : (i :: r, m, l) = ([], m1, l1) := h
    injection h with h1 h2
    cases h1
  | k + 1, i :: r, s2, m, m1, l, l1, h => by
    have h : ro_n P pl ru k (ro_1 P pl ru (i :: r, m, l)) = ([], m1, l1) := h
    have e1 : ∃ r' m' l', ro_1 P pl ru (i :: r, m, l) = (r', m', l') ∧ ro_1 P pl ru (i :: (r ++ s2), m, l) = (r' ++ s2, m', l') := by
      rw [ro_1c, ro_1c]
      by_cases hm : m i = true
      · rw [if_pos hm, if_pos hm]; exact ⟨_, _, _, rfl, rfl⟩
      · rw [if_neg hm, if_neg hm]; exact ⟨_, _, _, rfl, by rw [List.append_assoc]⟩
    obtain ⟨r', m', l', a1, a2⟩ := e1
    rw [a1] at h
    obtain ⟨k', hk'⟩ := DF_app1 k r' s2 m' m1 l' l1 h
    exact ⟨k' + 1, by show ro_n P pl ru k' (ro_1 P pl ru (i :: (r ++ s2), m, l)) = _; rw [a2, hk']⟩
theorem DF_app {s1 s2 : List Nat} {m m1 m2 : Nat → Bool} {l1 l2 : List Nat} (h1 : DF P pl ru s1 m m1 l1) (h2 : DF P pl ru s2 m1 m2 l2) : DF P pl ru (s1 ++ s2) m m2 (l1 ++ l2) := by
  obtain ⟨k1, h1⟩ := h1
  obtain ⟨k2, h2⟩ := h2
  obtain ⟨k', hk'⟩ := DF_app1 k1 s1 s2 m m1 [] l1 h1
  refine ⟨k' + k2, ?_⟩
  rw [ro_add, hk', ro_app, h2]
theorem DF_fun {st : List Nat} {m a b : Nat → Bool} {l l' : List Nat} (h1 : DF P pl ru st m a l) (h2 : DF P pl ru st m b l') : a = b ∧ l = l' := by
  obtain ⟨k1, h1⟩ := h1
  obtain ⟨k2, h2⟩ := h2
  have e1 := ro_add (P := P) (pl := pl) (ru := ru) k1 k2 (st, m, [])
  have e2 := ro_add (P := P) (pl := pl) (ru := ru) k2 k1 (st, m, [])
  rw [h1, ro_e] at e1
  rw [h2, ro_e, Nat.add_comm] at e2
  rw [e1] at e2
  injection e2 with q1 q2
  injection q2 with q2 q3
  exact ⟨q2, q3⟩
/-- marks and entries -/
theorem DF_inv : ∀ (k : Nat) (st : List Nat) (m : Nat → Bool) (l : List Nat) (m' : Nat → Bool) (l' : List Nat), ro_n P pl ru k (st, m, l) = ([], m', l') → (∀ i, m i = true → m' i = true) ∧ (∀ i, i ∈ st → m' i = true) ∧ (∀ i, m' i = true → m i = false → ∀ j, j ∈ ro_nx P pl ru i → m' j = true) ∧ (∀ j, j ∈ l' ↔ j ∈ l ∨ (m' j = true ∧ m j = false ∧ fo_en P ru j = true)) ∧ (∀ X, cl P pl ru X → (∀ i, m i = true → X i = true) → (∀ i, i ∈ st → X i = true) → ∀ i, m' i = true → X i = true)
  | k, [], m, l, m', l', h => by
    rw [ro_e] at h
    injection h with h1 h2
    injection h2 with h2 h3
    subst h2 h3
    refine ⟨fun _ h => h, fun i h => (by cases h), fun i h1 h2 => ?_, fun j => ⟨Or.inl, fun h => ?_⟩, fun X _ h _ i hi => h i hi⟩
    · rw [h1] at h2; cases h2
    · rcases h with h | ⟨h1, h2, -⟩
      · exact h
      · rw [h1] at h2; cases h2
  | 0, i :: r, m, l, m', l', h => by
    have h : (i :: r, m, l) = ([], m', l') := h
    injection h with h1 h2
    cases h1
  | k + 1, i :: r, m, l, m', l', h => by
    have h : ro_n P pl ru k (ro_1 P pl ru (i :: r, m, l)) = ([], m', l') := h
    rw [ro_1c] at h
    by_cases hm : m i = true
    · rw [if_pos hm] at h
      obtain ⟨a1, a2, a3, a4, a5⟩ := DF_inv k r m l m' l' h
      refine ⟨a1, fun j hj => ?_, a3, a4, fun X c1 c2 c3 => a5 X c1 c2 (fun j hj => c3 j (List.mem_cons_of_mem _ hj))⟩
      rcases List.mem_cons.mp hj with e | e
      · rw [e]; exact a1 i hm
      · exact a2 j e
    · have hm' : m i = false := by simpa using hm
      rw [if_neg hm] at h
      obtain ⟨a1, a2, a3, a4, a5⟩ := DF_inv k _ _ _ m' l' h
      have mk : ∀ j, fo_mk m i j = true ↔ j = i ∨ m j = true := fun j => by unfold fo_mk; simp
      have hi' : m' i = true := a1 i ((mk i).mpr (Or.inl rfl))
      refine ⟨fun j hj => a1 j ((mk j).mpr (Or.inr hj)), fun j hj => ?_, fun j h1 h2 q hq => ?_, fun j => ?_, fun X c1 c2 c3 => ?_⟩
      · rcases List.mem_cons.mp hj with e | e
        · rw [e]; exact hi'
        · exact a2 j (List.mem_append.mpr (Or.inr e))
      · by_cases e : j = i
        · subst e; exact a2 q (List.mem_append.mpr (Or.inl hq))
        · refine a3 j h1 ?_ q hq
          cases hx : fo_mk m i j with
          | false => rfl
          | true =>
            rcases (mk j).mp hx with e' | e'
            · exact absurd e' e
            · rw [h2] at e'; cases e'
      · rw [a4 j]
        constructor
        · intro h
          rcases h with h | ⟨h1, h2, h3⟩
          · split at h
            · next hen =>
              rcases List.mem_append.mp h with h | h
              · exact Or.inl h
              · simp only [List.mem_cons, List.not_mem_nil, or_false] at h
                subst h
                exact Or.inr ⟨hi', hm', hen⟩
            · exact Or.inl h
          · refine Or.inr ⟨h1, ?_, h3⟩
            cases hx : m j with
            | false => rfl
            | true => rw [(mk j).mpr (Or.inr hx)] at h2; cases h2
        · intro h
          rcases h with h | ⟨h1, h2, h3⟩
          · refine Or.inl ?_
            split
            · exact List.mem_append.mpr (Or.inl h)
            · exact h
          · by_cases e : j = i
            · subst e
              refine Or.inl ?_
              rw [if_pos h3]
              exact List.mem_append.mpr (Or.inr (by simp))
            · refine Or.inr ⟨h1, ?_, h3⟩
              cases hx : fo_mk m i j with
              | false => rfl
              | true =>
                rcases (mk j).mp hx with e' | e'
                · exact absurd e' e
                · rw [h2] at e'; cases e'
      · refine a5 X c1 (fun j hj => ?_) (fun j hj => ?_)
        · rcases (mk j).mp hj with e | e
          · rw [e]; exact c3 i List.mem_cons_self
          · exact c2 j e
        · rcases List.mem_append.mp hj with e | e
          · exact c1 i (c3 i List.mem_cons_self) j e
          · exact c3 j (List.mem_cons_of_mem _ e)
theorem DF_cl {st : List Nat} {m m' : Nat → Bool} {l : List Nat} (h : DF P pl ru st m m' l) (hm : cl P pl ru m) : cl P pl ru m' ∧ (∀ i, i ∈ st → m' i = true) ∧ (∀ i, m i = true → m' i = true) := by
  obtain ⟨k, h⟩ := h
  obtain ⟨a1, a2, a3, a4, a5⟩ := DF_inv k _ _ _ _ _ h
  refine ⟨fun i hi j hj => ?_, a2, a1⟩
  cases hx : m i with
  | true => exact a1 j (hm i hx j hj)
  | false => exact a3 i hi hx j hj
theorem DF_mem {st : List Nat} {m m' : Nat → Bool} {l : List Nat} (h : DF P pl ru st m m' l) (j : Nat) : j ∈ l ↔ m' j = true ∧ m j = false ∧ fo_en P ru j = true := by
  obtain ⟨k, h⟩ := h
  obtain ⟨a1, a2, a3, a4, a5⟩ := DF_inv k _ _ _ _ _ h
  rw [a4 j]
  exact ⟨fun h => h.elim (fun h => by cases h) id, Or.inr⟩
theorem DF_min {st : List Nat} {m' : Nat → Bool} {l : List Nat} {X : Nat → Bool} (h : DF P pl ru st (fun _ => false) m' l) (hX : cl P pl ru X) (hs : ∀ i, i ∈ st → X i = true) : ∀ i, m' i = true → X i = true := by
  obtain ⟨k, h⟩ := h
  exact (DF_inv k _ _ _ _ _ h).2.2.2.2 X hX (fun i hi => by cases hi) hs
theorem cl_0 : cl P pl ru (fun _ => false) := fun i h => by cases h
/-- with a closed set marked, just what isn't in it is found -/
theorem DF_skip {M m : Nat → Bool} (hm : ∀ i, M i = true → m i = true) {l : List Nat} : ∀ (s : List Nat) (i : Nat) (t : List Nat), s.filter (fun j => !M j) = i :: t → ∃ k r, ro_n P pl ru k (s, m, l) = (i :: r, m, l) ∧ r.filter (fun j => !M j) = t ∧ M i = false
  | [], i, t, h => by cases h
  | j :: s, i, t, h => by
    rw [List.filter_cons] at h
    by_cases hj : M j = true
    · rw [if_neg (by simp [hj])] at h
      obtain ⟨k, r, a1, a2, a3⟩ := DF_skip hm s i t h
      refine ⟨k + 1, r, ?_, a2, a3⟩
      show ro_n P pl ru k (ro_1 P pl ru (j :: s, m, l)) = _
      rw [ro_1c, if_pos (hm j hj), a1]
    · rw [if_pos (by simpa using hj)] at h
      injection h with h1 h2
      subst h1
      exact ⟨0, s, rfl, h2, by simpa using hj⟩
theorem DF_skip0 {M m : Nat → Bool} (hm : ∀ i, M i = true → m i = true) {l : List Nat} : ∀ (s : List Nat), s.filter (fun j => !M j) = [] → ∃ k, ro_n P pl ru k (s, m, l) = ([], m, l)
  | [], h => ⟨0, rfl⟩
  | j :: s, h => by
    rw [List.filter_cons] at h
    by_cases hj : M j = true
    · rw [if_neg (by simp [hj])] at h
      obtain ⟨k, a1⟩ := DF_skip0 hm s h
      refine ⟨k + 1, ?_⟩
      show ro_n P pl ru k (ro_1 P pl ru (j :: s, m, l)) = _
      rw [ro_1c, if_pos (hm j hj), a1]
    · rw [if_pos (by simpa using hj)] at h
      cases h
theorem DF_key1 {M : Nat → Bool} (hM : cl P pl ru M) : ∀ (k : Nat) (sB sA : List Nat) (b m' : Nat → Bool) (lB l' lA : List Nat), ro_n P pl ru k (sB, b, lB) = ([], m', l') → sA.filter (fun j => !M j) = sB.filter (fun j => !M j) → lA = lB.filter (fun j => !M j) → ∃ k', ro_n P pl ru k' (sA, fun j => M j || b j, lA) = ([], fun j => M j || m' j, l'.filter (fun j => !M j))
  | k, [], sA, b, m', lB, l', lA, h, hs, hl => by
    rw [ro_e] at h
    injection h with h1 h2
    injection h2 with h2 h3
    subst h2 h3 hl
    exact DF_skip0 (fun i hi => by simp [hi]) sA hs
  | 0, i :: r, sA, b, m', lB, l', lA, h, hs, hl => by
    have h : (i :: r, b, lB) = ([], m', l') := h
    injection h with h1 h2
    cases h1
  | k + 1, i :: r, sA, b, m', lB, l', lA, h, hs, hl => by
    have h : ro_n P pl ru k (ro_1 P pl ru (i :: r, b, lB)) = ([], m', l') := h
    rw [ro_1c] at h
    rw [List.filter_cons] at hs
    by_cases hMi : M i = true
    · rw [if_neg (by simp [hMi])] at hs
      by_cases hb : b i = true
      · rw [if_pos hb] at h
        exact DF_key1 hM k r sA b m' lB l' lA h hs hl
      · rw [if_neg hb] at h
        have hnx : (ro_nx P pl ru i).filter (fun j => !M j) = [] := by
          rw [List.filter_eq_nil_iff]
          intro j hj
          simp [hM i hMi j hj]
        obtain ⟨k', e⟩ := DF_key1 hM k (ro_nx P pl ru i ++ r) sA (fo_mk b i) m' _ l' lA h (by rw [List.filter_append, hnx, List.nil_append]; exact hs) (by
          rw [hl]
          split
          · rw [List.filter_append]
            have : List.filter (fun j => !M j) [i] = [] := by simp [hMi]
            rw [this, List.append_nil]
          · rfl)
        have em : (fun j => M j || fo_mk b i j) = (fun j => M j || b j) := by
          funext j
          unfold fo_mk
          by_cases e : j = i
          · subst e; simp [hMi]
          · simp [e]
        rw [em] at e
        exact ⟨k', e⟩
    · have hMi' : M i = false := by simpa using hMi
      rw [if_pos (by simp [hMi'])] at hs
      obtain ⟨k0, rA, a1, a2, -⟩ := DF_skip (P := P) (pl := pl) (ru := ru) (M := M) (m := fun j => M j || b j) (l := lA) (fun i hi => by simp [hi]) sA i _ hs
      by_cases hb : b i = true
      · rw [if_pos hb] at h
        obtain ⟨k', e⟩ := DF_key1 hM k r rA b m' lB l' lA h a2 hl
        refine ⟨k0 + (k' + 1), ?_⟩
        rw [ro_add, a1]
        show ro_n P pl ru k' (ro_1 P pl ru (i :: rA, _, lA)) = _
        rw [ro_1c, if_pos (by simp [hb]), e]
      · rw [if_neg hb] at h
        have hb' : b i = false := by simpa using hb
        obtain ⟨k', e⟩ := DF_key1 hM k (ro_nx P pl ru i ++ r) (ro_nx P pl ru i ++ rA) (fo_mk b i) m' _ l' (if fo_en P ru i then lA ++ [i] else lA) h (by rw [List.filter_append, List.filter_append, a2]) (by
          rw [hl]
          split
          · rw [List.filter_append]
            have : List.filter (fun j => !M j) [i] = [i] := by simp [hMi']
            rw [this]
          · rfl)
        refine ⟨k0 + (k' + 1), ?_⟩
        rw [ro_add, a1]
        show ro_n P pl ru k' (ro_1 P pl ru (i :: rA, _, lA)) = _
        rw [ro_1c, if_neg (by simp [hMi', hb'])]
        have em : fo_mk (fun j => M j || b j) i = (fun j => M j || fo_mk b i j) := by
          funext j
          show (decide (j = i) || (M j || b j)) = (M j || (decide (j = i) || b j))
          cases decide (j = i) <;> cases M j <;> cases b j <;> rfl
        rw [em, e]
theorem DF_key {M m' a : Nat → Bool} {st sA l lA : List Nat} (hM : cl P pl ru M) (hB : DF P pl ru st (fun _ => false) m' l) (hA : DF P pl ru sA M a lA) (hs : sA.filter (fun j => !M j) = st.filter (fun j => !M j)) : lA = l.filter (fun j => !M j) ∧ a = (fun j => M j || m' j) := by
  obtain ⟨k, hk⟩ := hB
  obtain ⟨k', hk'⟩ := DF_key1 hM k st sA _ _ _ _ [] hk hs rfl
  have em : (fun j => M j || false) = M := by funext j; simp
  rw [em] at hk'
  have := DF_fun hA ⟨k', hk'⟩
  exact ⟨this.2, this.1⟩
/-- following ends -/
theorem DF_F {i : Nat} {s : ro_T} (hW : pg_W P) (hJ : ro_J P s) (hi : i < P.1) : DF P pl ru [i] s.1 (ro_F P pl ru i s).1 (ro_F P pl ru i (s.1, [])).2 := by
  have hJ0 : ro_J P (s.1, ([] : List Nat)) := ⟨by have := hJ.1; simp only [List.length_nil]; omega, fun e he => by cases he⟩
  obtain ⟨j1, j2⟩ := ro_JI hW hJ0 hi
  have h1 := fo_end (pl := pl) (ru := ru) hW fo_N.1 (lft ([i], s.1, [])) (ro_Iup j1) (by rw [← ro_mer, er_lft, fo_N.2]; exact j2)
  have h2 := er_n (P := P) (pl := pl) (ru := ru) fo_N.1 (lft ([i], s.1, []))
  rw [er_lft] at h2
  refine ⟨fo_N.1, ?_⟩
  have h3 : (ro_n P pl ru fo_N.1 ([i], s.1, [])).1 = [] := by
    rw [← h2]
    unfold er
    rw [h1.1]
    rfl
  have e1 : (ro_F P pl ru i s).1 = (ro_n P pl ru fo_N.1 ([i], s.1, [])).2.1 := by
    have := ro_Fapp (P := P) (pl := pl) (ru := ru) (i := i) (m := s.1) (l := s.2)
    have e : ro_F P pl ru i s = ro_F P pl ru i (s.1, s.2) := rfl
    rw [e, this]
    rfl
  rw [e1]
  unfold ro_F
  generalize ro_n P pl ru fo_N.1 ([i], s.1, []) = z at h3 ⊢
  obtain ⟨z1, z2, z3⟩ := z
  have h3 : z1 = [] := h3
  subst h3
  rfl
theorem DF_g {f : Nat → Bool} (hW : pg_W P) (hf7 : ∀ e, f e = true → P.2.1 e ≠ 7) : ∀ (r : List Nat) (s : ro_T), (∀ e, e ∈ r → e < P.1) → ro_J P s → ∃ l, DF P pl ru ((r.filter f).map (fun e => e + 1)) s.1 (ro_g P pl ru f r s).1 l ∧ (ro_g P pl ru f r s).2 = s.2 ++ l
  | [], s, _, h => ⟨[], DF_nil, by simp [ro_g]⟩
  | e :: r, s, hr, h => by
    have he := hr e List.mem_cons_self
    unfold ro_g
    by_cases hfe : f e = true
    · have h7 := hf7 e hfe
      have he1 : e + 1 < P.1 := by
        have := (hW.2.2.1 e he).2.1
        have : ¬ e + 1 = P.1 := fun q => h7 (this.2 q)
        omega
      rw [if_pos hfe, List.filter_cons, if_pos hfe, List.map_cons]
      have d1 := DF_F (pl := pl) (ru := ru) hW h he1
      obtain ⟨l2, d2, e2⟩ := DF_g hW hf7 r (ro_F P pl ru (e + 1) s) (fun e' he' => hr e' (List.mem_cons_of_mem _ he')) (ro_FJ hW h he1)
      refine ⟨_, DF_app d1 d2, ?_⟩
      rw [e2]
      have e3 : ro_F P pl ru (e + 1) s = ro_F P pl ru (e + 1) (s.1, s.2) := rfl
      rw [e3, ro_Fapp, List.append_assoc]
    · rw [if_neg hfe, List.filter_cons, if_neg hfe]
      exact DF_g hW hf7 r s (fun e' he' => hr e' (List.mem_cons_of_mem _ he')) h
end DS
