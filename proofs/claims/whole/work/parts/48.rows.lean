/-! ROWS AND STATES, in the abstract -/
abbrev ro_T : Type := (Nat → Bool) × List Nat
abbrev ro_S : Type := List Nat × ro_T
def ro_nx (P : pg_P) (pl ru i : Nat) : List Nat := (fo_nx P pl ru i 0).map (fun e => e.1)
theorem fo_nx_er {P : pg_P} {pl ru i : Nat} {w : Int64} : (fo_nx P pl ru i w).map (fun e => e.1) = ro_nx P pl ru i := by
  unfold ro_nx fo_nx
  split
  · rfl
  · split
    · rfl
    · split
      · rfl
      · split
        · split <;> rfl
        · split
          · split <;> rfl
          · rfl
def ro_1 (P : pg_P) (pl ru : Nat) : ro_S → ro_S
  | ([], m, l) => ([], m, l)
  | (i :: r, m, l) => if m i then (r, m, l) else (ro_nx P pl ru i ++ r, fo_mk m i, if fo_en P ru i then l ++ [i] else l)
theorem ro_1c {P : pg_P} {pl ru i : Nat} {r l : List Nat} {m : Nat → Bool} : ro_1 P pl ru (i :: r, m, l) = if m i then (r, m, l) else (ro_nx P pl ru i ++ r, fo_mk m i, if fo_en P ru i then l ++ [i] else l) := rfl
def ro_n (P : pg_P) (pl ru : Nat) : Nat → ro_S → ro_S
  | 0, s => s
  | k + 1, s => ro_n P pl ru k (ro_1 P pl ru s)
def er (s : fo_S) : ro_S := (s.1.map (fun e => e.1), s.2.1, s.2.2.2.map (fun e => e.1))
theorem er_1 {P : pg_P} {pl ru : Nat} : ∀ s : fo_S, er (fo_1 P pl ru s) = ro_1 P pl ru (er s)
  | ([], m, t, l) => rfl
  | ((i, w) :: r, m, t, l) => by
    show er (fo_1 P pl ru ((i, w) :: r, m, t, l)) = ro_1 P pl ru (i :: r.map (fun e => e.1), m, l.map (fun e => e.1))
    rw [fo_1c, ro_1c]
    by_cases h : m i = true
    · rw [if_pos h, if_pos h]; rfl
    · rw [if_neg h, if_neg h]
      unfold er
      simp only [List.map_append, fo_nx_er]
      split <;> simp
theorem er_n {P : pg_P} {pl ru : Nat} : ∀ (k : Nat) (s : fo_S), er (fo_n P pl ru k s) = ro_n P pl ru k (er s)
  | 0, s => rfl
  | k + 1, s => by
    unfold fo_n ro_n
    rw [er_n k, er_1]
noncomputable def ro_F (P : pg_P) (pl ru i : Nat) (s : ro_T) : ro_T := (ro_n P pl ru fo_N.1 ([i], s)).2
def er2 (s : fo_T) : ro_T := (s.1, s.2.2.map (fun e => e.1))
theorem er_F {P : pg_P} {pl ru i : Nat} {w : Int64} {s : fo_T} : er2 (fo_F P pl ru i w s) = ro_F P pl ru i (er2 s) := by
  unfold fo_F ro_F
  have := er_n (P := P) (pl := pl) (ru := ru) fo_N.1 ([(i, w)], s)
  exact congrArg Prod.snd this
theorem ro_e {P : pg_P} {pl ru : Nat} {s : ro_T} : ∀ k, ro_n P pl ru k ([], s) = ([], s)
  | 0 => rfl
  | k + 1 => by unfold ro_n; exact ro_e k
theorem ro_app {P : pg_P} {pl ru : Nat} : ∀ (k : Nat) (st : List Nat) (m : Nat → Bool) (l : List Nat), ro_n P pl ru k (st, m, l) = ((ro_n P pl ru k (st, m, [])).1, (ro_n P pl ru k (st, m, [])).2.1, l ++ (ro_n P pl ru k (st, m, [])).2.2)
  | 0, st, m, l => by simp [ro_n]
  | k + 1, [], m, l => by rw [ro_e, ro_e]; simp
  | k + 1, i :: r, m, l => by
    unfold ro_n
    rw [ro_1c, ro_1c]
    by_cases h : m i = true
    · rw [if_pos h, if_pos h]
      exact ro_app k r m l
    · rw [if_neg h, if_neg h]
      by_cases h2 : fo_en P ru i = true
      · rw [if_pos h2, if_pos h2, ro_app k _ _ (l ++ [i]), ro_app k _ _ ([] ++ [i])]
        simp
      · rw [if_neg h2, if_neg h2]
        exact ro_app k _ _ l
theorem ro_Fapp {P : pg_P} {pl ru i : Nat} {m : Nat → Bool} {l : List Nat} : ro_F P pl ru i (m, l) = ((ro_F P pl ru i (m, [])).1, l ++ (ro_F P pl ru i (m, [])).2) := by
  unfold ro_F
  rw [ro_app fo_N.1 [i] m l]
def lft (s : ro_S) : fo_S := (s.1.map (fun i => (i, 0)), s.2.1, false, s.2.2.map (fun i => (i, 0)))
theorem er_lft (s : ro_S) : er (lft s) = s := by
  obtain ⟨a, m, l⟩ := s
  unfold er lft
  rw [List.map_map, List.map_map]
  have h : ∀ l : List Nat, l.map ((fun e : Nat × Int64 => e.1) ∘ fun i => (i, 0)) = l := fun l => List.map_id' l
  rw [h, h]
def ro_I (P : pg_P) (s : ro_S) : Prop := (∀ e, e ∈ s.1 → e < P.1) ∧ s.1.length + ct (fun j => !s.2.1 j && pg_s P j) P.1 ≤ 25 ∧ s.2.2.length + ct (fun j => !s.2.1 j && pg_e P j) P.1 ≤ 25 ∧ (∀ e, e ∈ s.2.2 → e < P.1)
def ro_m (P : pg_P) (s : ro_S) : Nat := s.1.length + 2 * ct (fun j => !s.2.1 j && true) P.1
theorem ro_Iup {P : pg_P} {s : ro_S} (h : ro_I P s) : fo_I P (lft s) := by
  obtain ⟨h1, h2, h3, h4⟩ := h
  refine ⟨fun e he => ?_, by simpa [lft] using h2, by simpa [lft] using h3, fun e he => ?_⟩
  · obtain ⟨i, a, b⟩ := List.mem_map.mp he; subst b; exact h1 i a
  · obtain ⟨i, a, b⟩ := List.mem_map.mp he; subst b; exact h4 i a
theorem ro_Idn {P : pg_P} {s : fo_S} (h : fo_I P s) : ro_I P (er s) := by
  obtain ⟨h1, h2, h3, h4⟩ := h
  refine ⟨fun e he => ?_, by simpa [er] using h2, by simpa [er] using h3, fun e he => ?_⟩
  · obtain ⟨i, a, b⟩ := List.mem_map.mp he; subst b; exact h1 i a
  · obtain ⟨i, a, b⟩ := List.mem_map.mp he; subst b; exact h4 i a
theorem ro_mer {P : pg_P} {s : fo_S} : ro_m P (er s) = fo_m P s := by
  unfold ro_m fo_m er
  simp
theorem ro_inv {P : pg_P} {pl ru : Nat} {s : ro_S} (hW : pg_W P) (h : ro_I P s) : ro_I P (ro_1 P pl ru s) ∧ (s.1 ≠ [] → ro_m P (ro_1 P pl ru s) + 1 ≤ ro_m P s) := by
  have h1 := fo_inv (pl := pl) (ru := ru) hW (ro_Iup h)
  have e1 : er (fo_1 P pl ru (lft s)) = ro_1 P pl ru s := by rw [er_1, er_lft]
  refine ⟨e1 ▸ ro_Idn h1.1, fun hs => ?_⟩
  have h2 := h1.2 (by
    unfold lft
    intro e
    exact hs (List.map_eq_nil_iff.mp e))
  rw [← ro_mer, ← ro_mer, e1, er_lft] at h2
  exact h2
def ro_J (P : pg_P) (s : ro_T) : Prop := s.2.length + ct (fun j => !s.1 j && pg_e P j) P.1 ≤ 25 ∧ (∀ e, e ∈ s.2 → e < P.1)
theorem ro_J0 {P : pg_P} (hW : pg_W P) : ro_J P (fun _ => false, []) := by
  have h := fo_J0 (t := false) hW
  exact ⟨h.1, fun e he => by cases he⟩
theorem ro_JI {P : pg_P} {i : Nat} {s : ro_T} (hW : pg_W P) (h : ro_J P s) (hi : i < P.1) : ro_I P ([i], s) ∧ ro_m P ([i], s) ≤ 99 := by
  have h1 := hW.2.2.2.1
  have h2 := hW.2.1
  have h3 := ct_mono (q := fun j => !s.1 j && pg_s P j) (r := pg_s P) P.1 (fun j _ hj => by simp at hj; exact hj.2)
  have h4 := ct_le (fun j => !s.1 j && true) P.1
  refine ⟨⟨fun e he => ?_, ?_, h.1, h.2⟩, ?_⟩
  · simp only [List.mem_cons, List.not_mem_nil, or_false] at he; subst he; exact hi
  · show 1 + ct (fun j => !s.1 j && pg_s P j) P.1 ≤ 25
    omega
  · show 1 + 2 * ct (fun j => !s.1 j && true) P.1 ≤ 99
    omega
theorem ro_end {P : pg_P} {pl ru : Nat} (hW : pg_W P) : ∀ (k : Nat) (s : ro_S), ro_I P s → ro_I P (ro_n P pl ru k s)
  | 0, s, h => h
  | k + 1, s, h => by unfold ro_n; exact ro_end hW k _ (ro_inv hW h).1
theorem ro_FJ {P : pg_P} {pl ru i : Nat} {s : ro_T} (hW : pg_W P) (h : ro_J P s) (hi : i < P.1) : ro_J P (ro_F P pl ru i s) := by
  have := ro_end (pl := pl) (ru := ru) hW fo_N.1 _ (ro_JI hW h hi).1
  exact ⟨this.2.2.1, this.2.2.2⟩
theorem er_J {P : pg_P} {s : fo_T} (h : ro_J P (er2 s)) : fo_J P s := by
  refine ⟨by simpa [er2] using h.1, fun e he => ?_⟩
  exact h.2 e.1 (List.mem_map.mpr ⟨e, he, rfl⟩)
/-! up to FOUND -/
def hf (P : pg_P) (l : List Nat) : Bool := l.any (fun i => decide (P.2.1 i = 7))
def tr (P : pg_P) : List Nat → List Nat
  | [] => []
  | i :: r => if P.2.1 i = 7 then [i] else i :: tr P r
theorem tr_c {P : pg_P} {i : Nat} {r : List Nat} : tr P (i :: r) = if P.2.1 i = 7 then [i] else i :: tr P r := rfl
theorem hf_c {P : pg_P} {i : Nat} {r : List Nat} : hf P (i :: r) = (decide (P.2.1 i = 7) || hf P r) := rfl
theorem hf_a {P : pg_P} {l r : List Nat} : hf P (l ++ r) = (hf P l || hf P r) := by unfold hf; rw [List.any_append]
theorem tr_nf {P : pg_P} : ∀ (l : List Nat), hf P l = false → tr P l = l
  | [], _ => rfl
  | i :: r, h => by
    rw [hf_c, Bool.or_eq_false_iff, decide_eq_false_iff_not] at h
    unfold tr
    rw [if_neg h.1, tr_nf r h.2]
theorem tr_app {P : pg_P} : ∀ (l r : List Nat), hf P l = true → tr P (l ++ r) = tr P l
  | [], _, h => by cases h
  | i :: l, r, h => by
    show tr P (i :: (l ++ r)) = _
    rw [tr_c, tr_c]
    by_cases hk : P.2.1 i = 7
    · rw [if_pos hk, if_pos hk]
    · rw [if_neg hk, if_neg hk]
      rw [hf_c, decide_eq_false hk, Bool.false_or] at h
      rw [tr_app l r h]
theorem tr_app2 {P : pg_P} : ∀ (l r : List Nat), hf P l = false → tr P (l ++ r) = l ++ tr P r
  | [], _, _ => rfl
  | i :: l, r, h => by
    rw [hf_c, Bool.or_eq_false_iff, decide_eq_false_iff_not] at h
    show tr P (i :: (l ++ r)) = _
    rw [tr_c, if_neg h.1, tr_app2 l r h.2]
    rfl
theorem hf_tr {P : pg_P} : ∀ (l : List Nat), hf P (tr P l) = hf P l
  | [] => rfl
  | i :: r => by
    unfold tr
    by_cases hk : P.2.1 i = 7
    · rw [if_pos hk, hf_c, hf_c, decide_eq_true hk]; rfl
    · rw [if_neg hk, hf_c, hf_c, hf_tr r]
theorem tr_tr {P : pg_P} : ∀ (l : List Nat), tr P (tr P l) = tr P l
  | [] => rfl
  | i :: r => by
    rw [tr_c]
    by_cases hk : P.2.1 i = 7
    · rw [if_pos hk, tr_c, if_pos hk]
    · rw [if_neg hk, tr_c, if_neg hk, tr_tr r]
theorem tr_len {P : pg_P} : ∀ (l : List Nat), (tr P l).length ≤ l.length
  | [] => Nat.le_refl _
  | i :: r => by
    unfold tr
    have := tr_len (P := P) r
    split <;> simp <;> omega
theorem tr_mem {P : pg_P} : ∀ (l : List Nat) (e : Nat), e ∈ tr P l → e ∈ l
  | [], e, h => h
  | i :: r, e, h => by
    unfold tr at h
    split at h
    · simp only [List.mem_cons, List.not_mem_nil, or_false] at h; subst h; exact List.mem_cons_self
    · rcases List.mem_cons.mp h with h | h
      · subst h; exact List.mem_cons_self
      · exact List.mem_cons_of_mem _ (tr_mem r e h)
/-- only the last of a row can be FOUND -/
theorem tr_last {P : pg_P} : ∀ (l : List Nat) (e : Nat), (tr P l)[(tr P l).length - 1]? = some e → (P.2.1 e = 7 ↔ hf P l = true)
  | [], e, h => by simp [tr] at h
  | i :: r, e, h => by
    unfold tr at h
    rw [hf_c]
    by_cases hk : P.2.1 i = 7
    · rw [if_pos hk] at h
      simp at h
      subst h
      simp [hk]
    · rw [if_neg hk] at h
      rw [decide_eq_false hk, Bool.false_or]
      by_cases hr : tr P r = []
      · rw [hr] at h
        simp at h
        subst h
        have : hf P r = false := by rw [← hf_tr, hr]; rfl
        rw [this]
        simp [hk]
      · refine tr_last r e ?_
        have hl : 0 < (tr P r).length := List.length_pos_iff.mpr hr
        rw [← h, List.length_cons, Nat.add_sub_cancel]
        rw [show (tr P r).length = (tr P r).length - 1 + 1 from by omega, List.getElem?_cons_succ]
        rw [← show (tr P r).length = (tr P r).length - 1 + 1 from by omega]
theorem hf_nil {P : pg_P} {l : List Nat} (h : tr P l = []) : hf P l = false := by rw [← hf_tr, h]; rfl
/-- following from behind some of the entries -/
noncomputable def ro_g (P : pg_P) (pl ru : Nat) (f : Nat → Bool) : List Nat → ro_T → ro_T
  | [], s => s
  | e :: r, s => ro_g P pl ru f r (if f e then ro_F P pl ru (e + 1) s else s)
theorem ro_gJ {P : pg_P} {pl ru : Nat} {f : Nat → Bool} (hW : pg_W P) (hf7 : ∀ e, f e = true → P.2.1 e ≠ 7) : ∀ (r : List Nat) (s : ro_T), (∀ e, e ∈ r → e < P.1) → ro_J P s → ro_J P (ro_g P pl ru f r s)
  | [], s, _, h => h
  | e :: r, s, hr, h => by
    unfold ro_g
    refine ro_gJ hW hf7 r _ (fun e' he => hr e' (List.mem_cons_of_mem _ he)) ?_
    split
    · next hfe =>
      have he := hr e List.mem_cons_self
      have := (hW.2.2.1 e he).2.1
      have h7 := hf7 e hfe
      refine ro_FJ hW h ?_
      have : ¬ e + 1 = P.1 := fun q => h7 (this.2 q)
      omega
    · exact h
theorem ro_gapp {P : pg_P} {pl ru : Nat} {f : Nat → Bool} : ∀ (r : List Nat) (m : Nat → Bool) (l : List Nat), ∃ l', (ro_g P pl ru f r (m, l)).2 = l ++ l'
  | [], m, l => ⟨[], by simp [ro_g]⟩
  | e :: r, m, l => by
    unfold ro_g
    split
    · rw [ro_Fapp]
      obtain ⟨l', h⟩ := ro_gapp r (ro_F P pl ru (e + 1) (m, [])).1 (l ++ (ro_F P pl ru (e + 1) (m, [])).2)
      exact ⟨_, by rw [h, List.append_assoc]⟩
    · exact ro_gapp r m l
/-! states -/
abbrev au_S : Type := List Nat × Bool × (Nat → Option Nat)
abbrev au_A : Type := List au_S × Nat × Nat × Nat
def tkl (P : pg_P) (c e : Nat) : Bool := decide (P.2.1 e = 1 ∨ (P.2.1 e = 0 ∧ P.2.2.1 e = c))
def au_i (r : List Nat) (b : Bool) : List au_S → Nat → Option Nat
  | [], _ => none
  | s :: K, k => if s.1 = r ∧ s.2.1 = b then some k else au_i r b K (k + 1)
def au_k (lim : Nat) (r : List Nat) (b : Bool) (A : au_A) : Option Nat × au_A :=
  match au_i r b A.1 0 with
  | some k => (some k, A)
  | none => if A.1.length < lim then (some A.1.length, (A.1 ++ [(r, b, fun _ => none)], A.2.1, A.2.2.1, A.2.2.2 + 1))
    else if A.2.2.1 + 1 < 3 then (some 0, ([(r, b, fun _ => none)], A.2.1 + 1, A.2.2.1 + 1, A.2.2.2 + 1)) else (none, ([], A.2.1 + 1, A.2.2.1 + 1, A.2.2.2))
noncomputable def au_r (P : pg_P) (c : Nat) (s : au_S) : ro_T := ro_g P 1 2 (tkl P c) s.1 (fun _ => false, [])
def au_o (P : pg_P) (s : au_S) : Bool := s.2.1 && !hf P s.1
noncomputable def au_r2 (P : pg_P) (c : Nat) (s : au_S) : ro_T := if au_o P s then ro_F P 1 2 0 (au_r P c s) else au_r P c s
def au_w (x c fl : Nat) (s : au_S) (q : Option Nat × au_A) : Option Nat × au_A := (q.1, (if q.2.2.1 = fl then q.2.1.set x (s.1, s.2.1, fun j => if j = c then q.1 else s.2.2 j) else q.2.1), q.2.2)
noncomputable def au_n (P : pg_P) (lim c x : Nat) (A : au_A) : Option Nat × au_A :=
  match A.1[x]? with
  | none => (none, A)
  | some s => if (s.2.2 c).isSome then (s.2.2 c, A) else au_w x c A.2.1 s (au_k lim (tr P (au_r2 P c s).2) (au_o P s) A)
noncomputable def au_1 (P : pg_P) (lim : Nat) (A : au_A) : Option Nat × au_A := au_k lim (tr P (ro_F P 0 2 0 (fun _ => false, [])).2) true A
noncomputable def au_b (P : pg_P) (T : tx_T) (r : List Nat) : Bool := hf P (ro_g P T.1 1 (fun e => decide (P.2.1 e = 6)) r (fun _ => false, [])).2
noncomputable def au_en (P : pg_P) (T : tx_T) (p : Nat) (s : au_S) (en : Option Nat) : Option Nat := if hf P s.1 || (decide (p = T.1) && au_b P T s.1) then some p else en
/-- where the last match ends: none if it gave up -/
noncomputable def au_e (P : pg_P) (T : tx_T) (lim : Nat) : Nat → Nat → Option Nat → Option Nat → au_A → Option (Option Nat) × au_A
  | 0, _, _, _, A => (none, A)
  | _ + 1, _, _, none, A => (none, A)
  | k + 1, p, en, some x, A =>
    match A.1[x]? with
    | none => (none, A)
    | some s => if p = T.1 ∨ (s.2.1 = false ∧ s.1 = []) then (some (au_en P T p s en), A) else au_e P T lim k (p + 1) (au_en P T p s en) (au_n P lim (T.2 p) x A).1 (au_n P lim (T.2 p) x A).2
/-- what holds of the kept states -/
def au_sI (P : pg_P) (n : Nat) (s : au_S) : Prop := s.1.length ≤ 25 ∧ (∀ e, e ∈ s.1 → e < P.1) ∧ tr P s.1 = s.1 ∧ ∀ c j, s.2.2 c = some j → j < n
def au_I (P : pg_P) (lim : Nat) (A : au_A) : Prop := A.1.length ≤ lim ∧ ∀ s, s ∈ A.1 → au_sI P A.1.length s
theorem au_sI_le {P : pg_P} {n m : Nat} {s : au_S} (h : n ≤ m) (hs : au_sI P n s) : au_sI P m s := ⟨hs.1, hs.2.1, hs.2.2.1, fun c j hj => Nat.lt_of_lt_of_le (hs.2.2.2 c j hj) h⟩
theorem au_i_lt {r : List Nat} {b : Bool} : ∀ (K : List au_S) (k j : Nat), au_i r b K k = some j → k ≤ j ∧ j < k + K.length
  | [], k, j, h => by cases h
  | s :: K, k, j, h => by
    unfold au_i at h
    split at h
    · injection h with h; subst h; simp
    · have := au_i_lt K (k + 1) j h
      simp only [List.length_cons]
      omega
theorem au_kI {P : pg_P} {lim : Nat} {r : List Nat} {b : Bool} {A : au_A} {s0 : ro_T} (hl : 1 ≤ lim) (hr : ro_J P s0) (hA : au_I P lim A) (he : r = tr P s0.2) : au_I P lim (au_k lim r b A).2 ∧ (∀ x, (au_k lim r b A).1 = some x → x < (au_k lim r b A).2.1.length) ∧ ((au_k lim r b A).2.2.1 = A.2.1 → (∃ x, (au_k lim r b A).1 = some x) ∧ ∃ K, (au_k lim r b A).2.1 = A.1 ++ K) := by
  obtain ⟨h1, h2⟩ := hA
  have hn : ∀ n, au_sI P n (r, b, fun _ => none) := fun n => ⟨by
    have := hr.1
    have h3 := tr_len (P := P) s0.2
    rw [← he] at h3
    simp only at this ⊢
    omega, fun e h => hr.2 e (tr_mem s0.2 e (he ▸ h)), by rw [he, tr_tr], fun c j h => by cases h⟩
  unfold au_k
  split
  · next k hk =>
    have := au_i_lt _ _ _ hk
    refine ⟨⟨h1, h2⟩, fun x hx => ?_, fun _ => ⟨⟨k, rfl⟩, [], by simp⟩⟩
    injection hx with hx; subst hx
    show k < A.1.length
    omega
  · split
    · next hlt =>
      refine ⟨⟨?_, fun s hs => ?_⟩, fun x hx => ?_, fun _ => ⟨⟨_, rfl⟩, _, rfl⟩⟩
      · show (A.1 ++ [(r, b, fun _ => none)]).length ≤ lim
        simp; omega
      · show au_sI P (A.1 ++ [(r, b, fun _ => none)]).length s
        rcases List.mem_append.mp hs with hs | hs
        · exact au_sI_le (by simp) (h2 s hs)
        · simp only [List.mem_cons, List.not_mem_nil, or_false] at hs; subst hs; exact hn _
      · injection hx with hx; subst hx
        simp
    · split
      · refine ⟨⟨hl, fun s hs => ?_⟩, fun x hx => ?_, fun h => ?_⟩
        · simp only [List.mem_cons, List.not_mem_nil, or_false] at hs; subst hs; exact hn _
        · injection hx with hx; subst hx
          show 0 < 1
          omega
        · have h : A.2.1 + 1 = A.2.1 := h
          omega
      · refine ⟨⟨Nat.zero_le _, fun s hs => by cases hs⟩, fun x hx => (by cases hx), fun h => ?_⟩
        have h : A.2.1 + 1 = A.2.1 := h
        omega
theorem tkl7 {P : pg_P} {c e : Nat} (h : tkl P c e = true) : P.2.1 e ≠ 7 := by
  unfold tkl at h
  rw [decide_eq_true_eq] at h
  omega
theorem au_rJ {P : pg_P} {c n : Nat} {s : au_S} (hW : pg_W P) (hs : au_sI P n s) : ro_J P (au_r2 P c s) := by
  have h1 : ro_J P (au_r P c s) := ro_gJ hW (fun e h => tkl7 h) s.1 _ hs.2.1 (ro_J0 hW)
  unfold au_r2
  split
  · exact ro_FJ hW h1 hW.1
  · exact h1
theorem au_nI {P : pg_P} {lim c x : Nat} {A : au_A} (hW : pg_W P) (hl : 1 ≤ lim) (hA : au_I P lim A) : au_I P lim (au_n P lim c x A).2 ∧ (∀ y, (au_n P lim c x A).1 = some y → y < (au_n P lim c x A).2.1.length) := by
  unfold au_n
  split
  · exact ⟨hA, fun y h => by cases h⟩
  · next s hs =>
    have hx : x < A.1.length := by
      rcases Nat.lt_or_ge x A.1.length with h | h
      · exact h
      · rw [List.getElem?_eq_none h] at hs; cases hs
    have hsI := hA.2 s (List.mem_of_getElem? hs)
    split
    · next hc =>
      refine ⟨hA, fun y h => ?_⟩
      exact hsI.2.2.2 _ _ h
    · obtain ⟨q1, q2, q3⟩ := au_kI (b := au_o P s) hl (au_rJ (c := c) hW hsI) hA rfl
      generalize au_k lim (tr P (au_r2 P c s).2) (au_o P s) A = q at q1 q2 q3
      unfold au_w
      by_cases hfl : q.2.2.1 = A.2.1
      · rw [if_pos hfl]
        obtain ⟨⟨z, hz⟩, K, hK⟩ := q3 hfl
        refine ⟨⟨?_, fun s' hs' => ?_⟩, fun y hy => ?_⟩
        · show (q.2.1.set x _).length ≤ lim
          rw [List.length_set]; exact q1.1
        · show au_sI P (q.2.1.set x _).length s'
          rw [List.length_set]
          have hs' : s' ∈ q.2.1.set x (s.1, s.2.1, fun j => if j = c then q.1 else s.2.2 j) := hs'
          rcases List.mem_or_eq_of_mem_set hs' with h | h
          · exact q1.2 s' h
          · subst h
            refine ⟨hsI.1, hsI.2.1, hsI.2.2.1, fun d j hj => ?_⟩
            have hj : (if d = c then q.1 else s.2.2 d) = some j := hj
            split at hj
            · exact q2 j hj
            · have := hsI.2.2.2 d j hj
              rw [hK, List.length_append]
              omega
        · show y < (q.2.1.set x _).length
          rw [List.length_set]
          exact q2 y hy
      · rw [if_neg hfl]
        exact ⟨q1, q2⟩
