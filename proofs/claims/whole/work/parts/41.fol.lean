/-! FOLLOWING, in the abstract, and the class's Follower -/
/-- how many j < n have q -/
def ct (q : Nat → Bool) : Nat → Nat
  | 0 => 0
  | n + 1 => ct q n + (if q n then 1 else 0)
theorem ct_le (q : Nat → Bool) : ∀ n, ct q n ≤ n
  | 0 => Nat.le_refl _
  | n + 1 => by
    have := ct_le q n
    unfold ct
    split <;> omega
theorem ct_mono {q r : Nat → Bool} : ∀ n, (∀ j, j < n → q j = true → r j = true) → ct q n ≤ ct r n
  | 0, _ => Nat.le_refl _
  | n + 1, h => by
    have h1 := ct_mono n (fun j hj => h j (by omega))
    unfold ct
    have h2 := h n (by omega)
    by_cases e : q n = true
    · rw [if_pos e, if_pos (h2 e)]; omega
    · rw [if_neg e]; omega
theorem ct_congr {q r : Nat → Bool} : ∀ n, (∀ j, j < n → q j = r j) → ct q n = ct r n
  | 0, _ => rfl
  | n + 1, h => by
    unfold ct
    rw [ct_congr n (fun j hj => h j (by omega)), h n (by omega)]
theorem ct_mark {m q : Nat → Bool} {i : Nat} (hm : m i = false) : ∀ n, i < n → ct (fun j => !(decide (j = i) || m j) && q j) n + (if q i then 1 else 0) = ct (fun j => !m j && q j) n
  | 0, h => by omega
  | n + 1, h => by
    by_cases e : i = n
    · subst e
      unfold ct
      rw [ct_congr (r := fun j => !m j && q j) i (fun j hj => by
        have : decide (j = i) = false := decide_eq_false (by omega)
        simp [this])]
      simp [hm]
    · have h1 := ct_mark hm (q := q) n (by omega)
      unfold ct
      have : decide (n = i) = false := decide_eq_false (by omega)
      simp only [this, Bool.false_or] at h1 ⊢
      omega
abbrev fo_S : Type := List (Nat × Int64) × (Nat → Bool) × Bool × List (Nat × Int64)
/-- what following i makes wait -/
def fo_nx (P : pg_P) (pl ru i : Nat) (w : Int64) : List (Nat × Int64) :=
  if P.2.1 i = 2 then [(P.2.2.1 i, w), (P.2.2.2 i, w)] else if P.2.1 i = 3 then [(P.2.2.1 i, w)] else if P.2.1 i = 4 then [(i + 1, sl_w w (P.2.2.1 i) pl)]
  else if P.2.1 i = 5 then (if pl = 0 then [(i + 1, w)] else []) else if P.2.1 i = 6 then (if ru = 1 then [(i + 1, w)] else []) else []
/-- an instruction that may stand in a list -/
def pg_e (P : pg_P) (i : Nat) : Bool := decide (P.2.1 i < 2 ∨ P.2.1 i = 6 ∨ P.2.1 i = 7)
def pg_s (P : pg_P) (i : Nat) : Bool := decide (P.2.1 i = 2)
def fo_en (P : pg_P) (ru i : Nat) : Bool := if P.2.1 i = 6 then decide (ru = 2) else decide (P.2.1 i < 2 ∨ P.2.1 i = 7)
def fo_mk (m : Nat → Bool) (i : Nat) : Nat → Bool := fun j => decide (j = i) || m j
def fo_1 (P : pg_P) (pl ru : Nat) : fo_S → fo_S
  | ([], m, t, l) => ([], m, t, l)
  | ((i, w) :: r, m, t, l) => if m i then (r, m, true, l) else (fo_nx P pl ru i w ++ r, fo_mk m i, t, if fo_en P ru i then l ++ [(i, w)] else l)
theorem fo_1c {P : pg_P} {pl ru i : Nat} {w : Int64} {r : List (Nat × Int64)} {m : Nat → Bool} {t : Bool} {l : List (Nat × Int64)} : fo_1 P pl ru ((i, w) :: r, m, t, l) = if m i then (r, m, true, l) else (fo_nx P pl ru i w ++ r, fo_mk m i, t, if fo_en P ru i then l ++ [(i, w)] else l) := rfl
def fo_n (P : pg_P) (pl ru : Nat) : Nat → fo_S → fo_S
  | 0, s => s
  | k + 1, s => fo_n P pl ru k (fo_1 P pl ru s)
/-- a program as compile makes it -/
def pg_W (P : pg_P) : Prop := 1 ≤ P.1 ∧ P.1 ≤ 49 ∧ (∀ i, i < P.1 → P.2.1 i ≤ 7 ∧ (P.2.1 i = 7 ↔ i + 1 = P.1) ∧ (P.2.1 i = 2 → P.2.2.1 i < P.1 ∧ P.2.2.2 i < P.1) ∧ (P.2.1 i = 3 → P.2.2.1 i < P.1) ∧ (P.2.1 i = 4 → 2 ≤ P.2.2.1 i ∧ P.2.2.1 i < 8) ∧ (P.2.1 i = 0 → P.2.2.1 i < 8)) ∧ ct (pg_s P) P.1 ≤ 24 ∧ ct (pg_e P) P.1 ≤ 25
def fo_I (P : pg_P) (s : fo_S) : Prop := (∀ e, e ∈ s.1 → e.1 < P.1) ∧ s.1.length + ct (fun j => !s.2.1 j && pg_s P j) P.1 ≤ 25 ∧ s.2.2.2.length + ct (fun j => !s.2.1 j && pg_e P j) P.1 ≤ 25 ∧ (∀ e, e ∈ s.2.2.2 → e.1 < P.1)
def fo_m (P : pg_P) (s : fo_S) : Nat := s.1.length + 2 * ct (fun j => !s.2.1 j && true) P.1
theorem fo_nx_lt {P : pg_P} {pl ru i : Nat} {w : Int64} (hW : pg_W P) (hi : i < P.1) : ∀ e, e ∈ fo_nx P pl ru i w → e.1 < P.1 := by
  obtain ⟨-, -, h, -⟩ := hW
  obtain ⟨h7, hf, h2, h3, h4, h0⟩ := h i hi
  intro e he
  have hn : P.2.1 i ≠ 7 → i + 1 < P.1 := fun hh => by
    have : ¬ i + 1 = P.1 := fun e => hh (hf.2 e)
    omega
  unfold fo_nx at he
  split at he
  · next hk =>
    have := h2 hk
    simp only [List.mem_cons, List.not_mem_nil, or_false] at he
    rcases he with rfl | rfl
    · exact this.1
    · exact this.2
  · split at he
    · next hk => simp only [List.mem_cons, List.not_mem_nil, or_false] at he; subst he; exact h3 hk
    · split at he
      · next hk => simp only [List.mem_cons, List.not_mem_nil, or_false] at he; subst he; exact hn (by omega)
      · split at he
        · split at he
          · simp only [List.mem_cons, List.not_mem_nil, or_false] at he; subst he; exact hn (by omega)
          · cases he
        · split at he
          · split at he
            · simp only [List.mem_cons, List.not_mem_nil, or_false] at he; subst he; exact hn (by omega)
            · cases he
          · cases he
theorem fo_nx_len {P : pg_P} {pl ru i : Nat} {w : Int64} : (fo_nx P pl ru i w).length ≤ 1 + (if pg_s P i then 1 else 0) := by
  unfold fo_nx pg_s
  split
  · next h => simp [h]
  · split
    · simp
    · split
      · simp
      · split
        · split <;> simp
        · split
          · split <;> simp
          · simp
theorem fo_en_e {P : pg_P} {ru i : Nat} (h : fo_en P ru i = true) : pg_e P i = true := by
  unfold fo_en at h
  unfold pg_e
  split at h
  · next hk => simp [hk]
  · simp only [decide_eq_true_eq] at h ⊢; omega
theorem fo_inv {P : pg_P} {pl ru : Nat} {s : fo_S} (hW : pg_W P) (h : fo_I P s) : fo_I P (fo_1 P pl ru s) ∧ (s.1 ≠ [] → fo_m P (fo_1 P pl ru s) + 1 ≤ fo_m P s) := by
  obtain ⟨stk, m, t, l⟩ := s
  obtain ⟨h1, h2, h3, h4⟩ := h
  match stk with
  | [] => exact ⟨⟨h1, h2, h3, h4⟩, fun h => absurd rfl h⟩
  | (i, w) :: r =>
    have hi : i < P.1 := h1 (i, w) List.mem_cons_self
    rw [fo_1c]
    by_cases hm : m i = true
    · rw [if_pos hm]
      simp only [List.length_cons] at h2
      refine ⟨⟨fun e he => h1 e (List.mem_cons_of_mem _ he), by show r.length + ct (fun j => !m j && pg_s P j) P.1 ≤ 25; omega, h3, h4⟩, fun _ => ?_⟩
      unfold fo_m
      simp only [List.length_cons]
      omega
    · rw [if_neg hm]
      have hm' : m i = false := by simpa using hm
      have c1 := ct_mark hm' (q := pg_s P) P.1 hi
      have c2 := ct_mark hm' (q := pg_e P) P.1 hi
      have c3 := ct_mark hm' (q := fun _ => true) P.1 hi
      have hl := fo_nx_len (P := P) (pl := pl) (ru := ru) (i := i) (w := w)
      simp only [List.length_cons] at h2 h3
      refine ⟨⟨?_, ?_, ?_, ?_⟩, fun _ => ?_⟩
      · intro e he
        rcases List.mem_append.mp he with he | he
        · exact fo_nx_lt hW hi e he
        · exact h1 e (List.mem_cons_of_mem _ he)
      · show (fo_nx P pl ru i w ++ r).length + ct (fun j => !(decide (j = i) || m j) && pg_s P j) P.1 ≤ 25
        rw [List.length_append]
        split at hl <;> split at c1 <;> first | omega | simp_all
      · show (if fo_en P ru i = true then l ++ [(i, w)] else l).length + ct (fun j => !(decide (j = i) || m j) && pg_e P j) P.1 ≤ 25
        split
        · next he =>
          rw [if_pos (fo_en_e he)] at c2
          rw [List.length_append]
          simp only [List.length_cons, List.length_nil]
          omega
        · split at c2 <;> omega
      · intro e he
        have he : e ∈ (if fo_en P ru i = true then l ++ [(i, w)] else l) := he
        split at he
        · rcases List.mem_append.mp he with he | he
          · exact h4 e he
          · simp only [List.mem_cons, List.not_mem_nil, or_false] at he; subst he; exact hi
        · exact h4 e he
      · unfold fo_m
        show (fo_nx P pl ru i w ++ r).length + 2 * ct (fun j => !(decide (j = i) || m j) && true) P.1 + 1 ≤ _
        simp only [List.length_cons]
        rw [List.length_append]
        rw [if_pos rfl] at c3
        have : (if pg_s P i = true then 1 else 0) ≤ 1 := by split <;> omega
        omega
theorem fo_e {P : pg_P} {pl ru : Nat} {m : Nat → Bool} {t : Bool} {l : List (Nat × Int64)} : ∀ k, fo_n P pl ru k ([], m, t, l) = ([], m, t, l)
  | 0 => rfl
  | k + 1 => by unfold fo_n; exact fo_e k
theorem fo_end {P : pg_P} {pl ru : Nat} (hW : pg_W P) : ∀ (k : Nat) (s : fo_S), fo_I P s → fo_m P s ≤ k → (fo_n P pl ru k s).1 = [] ∧ fo_I P (fo_n P pl ru k s)
  | 0, (stk, m, t, l), h, hm => by
    unfold fo_m at hm
    refine ⟨?_, h⟩
    have : stk.length = 0 := by simp only at hm; omega
    exact List.length_eq_zero_iff.mp this
  | k + 1, s, h, hm => by
    by_cases e : s.1 = []
    · obtain ⟨stk, m, t, l⟩ := s
      have e : stk = [] := e
      subst e
      rw [fo_e]
      exact ⟨rfl, h⟩
    · unfold fo_n
      have hh := fo_inv (pl := pl) (ru := ru) hW h
      refine fo_end hW k _ hh.1 ?_
      have := hh.2 e; omega
/-- 99, so that nothing counts it out -/
noncomputable def fo_N : { k : Nat // k = 99 } := Classical.choice ⟨⟨99, rfl⟩⟩
/-- following from i with w: marks, whether it came twice, and the list -/
noncomputable def fo_F (P : pg_P) (pl ru i : Nat) (w : Int64) (s : (Nat → Bool) × Bool × List (Nat × Int64)) : (Nat → Bool) × Bool × List (Nat × Int64) := (fo_n P pl ru fo_N.1 ([(i, w)], s)).2
/-- between two followings -/
def fo_J (P : pg_P) (s : (Nat → Bool) × Bool × List (Nat × Int64)) : Prop := s.2.2.length + ct (fun j => !s.1 j && pg_e P j) P.1 ≤ 25 ∧ (∀ e, e ∈ s.2.2 → e.1 < P.1)
theorem fo_J0 {P : pg_P} {t : Bool} (hW : pg_W P) : fo_J P (fun _ => false, t, []) := by
  refine ⟨?_, fun e he => by cases he⟩
  have h := hW.2.2.2.2
  simp only [List.length_nil]
  have := ct_mono (q := fun j => !false && pg_e P j) (r := pg_e P) P.1 (fun j _ hj => by simpa using hj)
  omega
theorem fo_JI {P : pg_P} {i : Nat} {w : Int64} {s : (Nat → Bool) × Bool × List (Nat × Int64)} (hW : pg_W P) (h : fo_J P s) (hi : i < P.1) : fo_I P ([(i, w)], s) ∧ fo_m P ([(i, w)], s) ≤ 99 := by
  have h1 := hW.2.2.2.1
  have h2 := hW.2.1
  have h3 := ct_mono (q := fun j => !s.1 j && pg_s P j) (r := pg_s P) P.1 (fun j _ hj => by simp at hj; exact hj.2)
  have h4 := ct_le (fun j => !s.1 j && true) P.1
  refine ⟨⟨fun e he => ?_, ?_, h.1, h.2⟩, ?_⟩
  · simp only [List.mem_cons, List.not_mem_nil, or_false] at he; subst he; exact hi
  · show 1 + ct (fun j => !s.1 j && pg_s P j) P.1 ≤ 25
    omega
  · show 1 + 2 * ct (fun j => !s.1 j && true) P.1 ≤ 99
    omega
theorem fo_FJ {P : pg_P} {pl ru i : Nat} {w : Int64} {s : (Nat → Bool) × Bool × List (Nat × Int64)} (hW : pg_W P) (h : fo_J P s) (hi : i < P.1) : fo_J P (fo_F P pl ru i w s) := by
  obtain ⟨h1, h2⟩ := fo_JI (w := w) hW h hi
  have hh : ∀ s' : fo_S, fo_I P s' → fo_J P s'.2 := fun s' h => ⟨h.2.2.1, h.2.2.2⟩
  unfold fo_F
  exact hh _ (fo_end (pl := pl) (ru := ru) hW fo_N.1 _ h1 (by rw [fo_N.2]; exact h2)).2
/-! the class's Follower -/
def st_R (I : Nat → Nat → Int32) (J : Nat → Nat → Int64) (f : Nat) : List (Nat × Int64) → Prop
  | [] => True
  | e :: r => I (f + 1) r.length = nI e.1 ∧ J (f + 2) r.length = e.2 ∧ st_R I J f r
theorem st_R_mono {I I' : Nat → Nat → Int32} {J J' : Nat → Nat → Int64} {f : Nat} : ∀ (r : List (Nat × Int64)), (∀ k, k < r.length → I' (f + 1) k = I (f + 1) k ∧ J' (f + 2) k = J (f + 2) k) → st_R I J f r → st_R I' J' f r
  | [], _, _ => trivial
  | e :: r, h, ⟨h1, h2, h3⟩ => by
    have hh := h r.length (by simp)
    exact ⟨hh.1.trans h1, hh.2.trans h2, st_R_mono r (fun k hk => h k (by simp; omega)) h3⟩
def ls_R (I : Nat → Nat → Int32) (J : Nat → Nat → Int64) (t : Nat) (l : List (Nat × Int64)) : Prop := I t 2 = nI l.length ∧ ∀ k e, l[k]? = some e → I (t + 1) k = nI e.1 ∧ J (t + 2) k = e.2
def bI (b : Bool) : Int32 := if b then 1 else 0
def fo_R (I : Nat → Nat → Int32) (J : Nat → Nat → Int64) (f t : Nat) (s : fo_S) : Prop :=
  I f 2 = nI s.1.length ∧ st_R I J f s.1 ∧ (∀ j, j < 49 → mk_b (J f 3) j = s.2.1 j) ∧ I f 4 = bI s.2.2.1 ∧ ls_R I J t s.2.2.2
def fo_C (sh : Nat → Option (Nat × Nat)) (R : Nat → Nat → Option Nat) (f t g : Nat) : Prop := ly_F sh R f ∧ ly_T sh R t ∧ ly_P sh R g ∧ R f 5 = some g ∧ R f 6 = some t ∧ (f + 2 < t ∨ t + 2 < f) ∧ (g + 3 < f ∨ f + 2 < g) ∧ (g + 3 < t ∨ t + 2 < g)
/-- nothing but follower and list has changed -/
def fo_K (f t : Nat) (I I' : Nat → Nat → Int32) (J J' : Nat → Nat → Int64) : Prop := (∀ a k, (a < f ∨ f + 2 < a) → (a < t ∨ t + 2 < a) → I' a k = I a k ∧ J' a k = J a k) ∧ (∀ k, k = 7 ∨ k = 8 → I' f k = I f k)
theorem fo_K_refl {f t : Nat} {I : Nat → Nat → Int32} {J : Nat → Nat → Int64} : fo_K f t I I J J := ⟨fun _ _ _ _ => ⟨rfl, rfl⟩, fun _ _ => rfl⟩
theorem fo_K_trans {f t : Nat} {I I' I2 : Nat → Nat → Int32} {J J' J2 : Nat → Nat → Int64} (h : fo_K f t I I' J J') (k : fo_K f t I' I2 J' J2) : fo_K f t I I2 J J2 :=
  ⟨fun a j h1 h2 => ⟨(k.1 a j h1 h2).1.trans (h.1 a j h1 h2).1, (k.1 a j h1 h2).2.trans (h.1 a j h1 h2).2⟩, fun a ha => (k.2 a ha).trans (h.2 a ha)⟩
theorem pg_R_K {f t g : Nat} {P : pg_P} {I I' : Nat → Nat → Int32} {J J' : Nat → Nat → Int64} (h : fo_K f t I I' J J') (d1 : g + 3 < f ∨ f + 2 < g) (d2 : g + 3 < t ∨ t + 2 < g) (hp : pg_R I g P) : pg_R I' g P := by
  obtain ⟨p0, p1, p2⟩ := hp
  refine ⟨(h.1 g 3 (by omega) (by omega)).1.trans p0, p1, fun i hi => ?_⟩
  obtain ⟨a, b, c⟩ := p2 i hi
  exact ⟨(h.1 _ i (by omega) (by omega)).1.trans a, (h.1 _ i (by omega) (by omega)).1.trans b, (h.1 _ i (by omega) (by omega)).1.trans c⟩
section FO
variable {sh : Nat → Option (Nat × Nat)} {I : Nat → Nat → Int32} {J : Nat → Nat → Int64} {R : Nat → Nat → Option Nat} {n f t g : Nat} {m : Nat → Bool} {tw : Bool} {r l : List (Nat × Int64)} {P : pg_P}
theorem fo_R_push {i : Nat} {w : Int64} (d : f + 2 < t ∨ t + 2 < f) (h : fo_R I J f t (r, m, tw, l)) : fo_R (hv_u (hv_u I (f + 1) r.length (nI i)) f 2 (nI (r.length + 1))) (hv_u J (f + 2) r.length w) f t ((i, w) :: r, m, tw, l) := by
  obtain ⟨h1, h2, h3, h4, h5, h6⟩ := h
  refine ⟨ev_us, ⟨?_, ev_us, st_R_mono r (fun k hk => ?_) h2⟩, fun j hj => ?_, ?_, ?_, fun k e he => ?_⟩
  · show hv_u (hv_u I (f + 1) r.length (nI i)) f 2 (nI (r.length + 1)) (f + 1) r.length = nI i
    rw [ev_ua (by omega), ev_us]
  · rw [ev_ua (by omega), ev_uk (by omega), ev_uk (by omega)]
    exact ⟨rfl, rfl⟩
  · rw [ev_ua (by omega)]; exact h3 j hj
  · rw [ev_uk (by omega), ev_ua (by omega)]; exact h4
  · rw [ev_ua (by omega), ev_ua (by omega)]; exact h5
  · rw [ev_ua (by omega), ev_ua (by omega), ev_ua (by omega)]; exact h6 k e he
theorem fo_K_push {c i : Nat} {w : Int64} {v : Int32} : fo_K f t I (hv_u (hv_u I (f + 1) c (nI i)) f 2 v) J (hv_u J (f + 2) c w) := by
  refine ⟨fun a k h1 h2 => ?_, fun k hk => ?_⟩
  · rw [ev_ua (by omega), ev_ua (by omega), ev_ua (by omega)]; exact ⟨rfl, rfl⟩
  · rw [ev_uk (by omega), ev_ua (by omega)]
theorem fo_R_add {i : Nat} {w : Int64} (d : f + 2 < t ∨ t + 2 < f) (h : fo_R I J f t (r, m, tw, l)) : fo_R (hv_u (hv_u I (t + 1) l.length (nI i)) t 2 (nI (l.length + 1))) (hv_u J (t + 2) l.length w) f t (r, m, tw, l ++ [(i, w)]) := by
  obtain ⟨h1, h2, h3, h4, h5, h6⟩ := h
  refine ⟨?_, st_R_mono r (fun k hk => ?_) h2, fun j hj => ?_, ?_, ?_, fun k e he => ?_⟩
  · rw [ev_ua (by omega), ev_ua (by omega)]; exact h1
  · rw [ev_ua (by omega), ev_ua (by omega), ev_ua (by omega)]; exact ⟨rfl, rfl⟩
  · rw [ev_ua (by omega)]; exact h3 j hj
  · rw [ev_ua (by omega), ev_ua (by omega)]; exact h4
  · rw [ev_us]; simp
  · rw [ev_ua (by omega)]
    rcases Nat.lt_trichotomy k l.length with hk | hk | hk
    · rw [List.getElem?_append_left hk] at he
      rw [ev_uk (by omega), ev_uk (by omega)]; exact h6 k e he
    · subst hk
      simp at he
      subst he
      rw [ev_us, ev_us]; exact ⟨rfl, rfl⟩
    · rw [List.getElem?_eq_none (by simp; omega)] at he; cases he
theorem fo_K_add {c i : Nat} {w : Int64} {v : Int32} (d : f + 2 < t ∨ t + 2 < f) : fo_K f t I (hv_u (hv_u I (t + 1) c (nI i)) t 2 v) J (hv_u J (t + 2) c w) := by
  refine ⟨fun a k h1 h2 => ?_, fun k hk => ?_⟩
  · rw [ev_ua (by omega), ev_ua (by omega), ev_ua (by omega)]; exact ⟨rfl, rfl⟩
  · rw [ev_ua (by omega), ev_ua (by omega)]
theorem e_Fo_step {i pl ru : Nat} {w : Int64} (hC : fo_C sh R f t g) (hp : pg_R I g P) (hW : pg_W P) (hpl : I f 7 = nI pl) (hru : I f 8 = nI ru) (hb : pl < 31) (hb2 : ru < 3) (hI : fo_I P ((i, w) :: r, m, tw, l)) (h : fo_R I J f t (r, m, tw, l)) :
    ∃ I' J', f_Fo_step f (nI i) w (sh, I, J, R, n) = some (sh, I', J', R, n) ∧ fo_R I' J' f t (fo_1 P pl ru ((i, w) :: r, m, tw, l)) ∧ fo_K f t I I' J J' := by
  obtain ⟨lF, lT, lP, r5, r6, d1, d2, d3⟩ := hC
  obtain ⟨i1, i2, i3, i4⟩ := hI
  have hi : i < P.1 := i1 (i, w) List.mem_cons_self
  have hn := hW.2.1
  simp only [List.length_cons] at i2
  have hr := h
  obtain ⟨h1, h2, h3, h4, h5⟩ := h
  rw [fo_1c]
  unfold f_Fo_step
  simp only [ev_b, ev_ob lF.1, ev_J, ev_R, ev_sJ, r5, ev_ob lP.1, mk_t (show i < 64 by omega), h3 i (by omega)]
  by_cases hm : m i = true
  · rw [if_pos hm, if_neg (by simp [hm])]
    refine ⟨_, _, rfl, ⟨?_, st_R_mono r (fun k hk => ?_) h2, fun j hj => h3 j hj, ev_us, ?_, fun k e he => ?_⟩, fun a k g1 g2 => ?_, fun k hk => ?_⟩
    · rw [ev_uk (by decide)]; exact h1
    · rw [ev_ua (by omega)]; exact ⟨rfl, rfl⟩
    · rw [ev_ua (by omega)]; exact h5.1
    · rw [ev_ua (by omega)]; exact h5.2 k e he
    · rw [ev_ua (by omega)]; exact ⟨rfl, rfl⟩
    · rw [ev_uk (by omega)]
  · rw [if_neg hm, if_pos (by simpa using hm)]
    have hm' : m i = false := by simpa using hm
    have c1 := ct_mark hm' (q := pg_s P) P.1 hi
    have c2 := ct_mark hm' (q := pg_e P) P.1 hi
    have hR : fo_R I (hv_u J f 3 (J f 3 ||| ((1 : Int64) <<< ((nI i).toInt64 &&& 63)))) f t (r, fo_mk m i, tw, l) := by
      refine ⟨h1, st_R_mono r (fun k hk => ?_) h2, fun j hj => ?_, h4, h5.1, fun k e he => ?_⟩
      · rw [ev_ua (by omega)]; exact ⟨rfl, rfl⟩
      · rw [ev_us, mk_o (by omega) (by omega), h3 j hj]; rfl
      · rw [ev_ua (by omega)]; exact h5.2 k e he
    have hK : fo_K f t I I J (hv_u J f 3 (J f 3 ||| ((1 : Int64) <<< ((nI i).toInt64 &&& 63)))) := by
      refine ⟨fun a k g1 g2 => ?_, fun k hk => rfl⟩
      rw [ev_ua (by omega)]; exact ⟨rfl, rfl⟩
    generalize hv_u J f 3 (J f 3 ||| ((1 : Int64) <<< ((nI i).toInt64 &&& 63))) = J1 at hR hK ⊢
    obtain ⟨w7, wf, w2, w3, w4, w0⟩ := hW.2.2.1 i hi
    have hnx : P.2.1 i ≠ 7 → i + 1 < 49 := fun hh => by
      have : ¬ i + 1 = P.1 := fun e => hh (wf.2 e)
      omega
    rw [e_Pr_kindAt lP hp hi]
    have c1' : r.length + 1 + ((if pg_s P i = true then 1 else 0)) ≤ 25 := by omega
    have c2' : l.length + ((if pg_e P i = true then 1 else 0)) ≤ 25 := by simp only at i3; omega
    have hcs : P.2.1 i = 2 ∨ P.2.1 i = 3 ∨ P.2.1 i = 4 ∨ P.2.1 i = 5 ∨ P.2.1 i = 6 ∨ (P.2.1 i < 2 ∨ P.2.1 i = 7) := by omega
    rcases hcs with hk | hk | hk | hk | hk | hk
    · have e1 := e_Pr_yAt (J := J1) (n := n) lP hp hi
      have s1 : pg_s P i = true := by simp [pg_s, hk]
      rw [if_pos s1] at c1'
      have e2 := e_Fo_push (J := J1) (n := n) (i := P.2.2.2 i) (w := w) lF h1 (show r.length < 25 by omega) (by have := w2 hk; omega)
      have k1 := fo_K_push (f := f) (t := t) (I := I) (J := J1) (c := r.length) (i := P.2.2.2 i) (w := w) (v := nI (r.length + 1))
      have e3 := e_Pr_xAt (J := hv_u J1 (f + 2) r.length w) (n := n) lP (pg_R_K k1 d2 d3 hp) hi
      have q1 := fo_R_push (i := P.2.2.2 i) (w := w) d1 hR
      have e4 := e_Fo_push (J := hv_u J1 (f + 2) r.length w) (n := n) (i := P.2.2.1 i) (w := w) lF q1.1 (show (r.length + 1) < 25 by omega) (by have := w2 hk; omega)
      have q2 := fo_R_push (i := P.2.2.1 i) (w := w) d1 q1
      simp only [ev_b, hk, li_2, ev_it, ev_ob lF.1, ev_R, r5, ev_ob lP.1, e1, e2, e3, e4]
      refine ⟨_, _, rfl, ?_, fo_K_trans hK (fo_K_trans k1 fo_K_push)⟩
      simp only [fo_nx, fo_en, hk]
      exact q2
    · have e1 := e_Pr_xAt (J := J1) (n := n) lP hp hi
      have e2 := e_Fo_push (J := J1) (n := n) (i := P.2.2.1 i) (w := w) lF h1 (show r.length < 25 by omega) (by have := w3 hk; omega)
      have q1 := fo_R_push (i := P.2.2.1 i) (w := w) d1 hR
      simp (disch := omega) only [ev_b, hk, li_2, li_3, nI_eq, ev_it, ev_if, ev_ob lF.1, ev_R, r5, ev_ob lP.1, e1, e2]
      refine ⟨_, _, rfl, ?_, fo_K_trans hK fo_K_push⟩
      simp only [fo_nx, fo_en, hk]
      exact q1
    · have e1 := e_Pr_xAt (J := J1) (n := n) lP hp hi
      have e2 := e_Fo_push (J := J1) (n := n) (i := i + 1) (w := sl_w w (P.2.2.1 i) pl) lF h1 (show r.length < 25 by omega) (hnx (by omega))
      have q1 := fo_R_push (i := i + 1) (w := sl_w w (P.2.2.1 i) pl) d1 hR
      simp (disch := omega) only [ev_b, hk, li_1, li_2, li_3, li_4, nI_eq, nI_add, ev_it, ev_if, ev_ob lF.1, ev_I, ev_R, r5, ev_ob lP.1, e1, hpl, sl_wf, e2]
      refine ⟨_, _, rfl, ?_, fo_K_trans hK fo_K_push⟩
      simp only [fo_nx, fo_en, hk]
      exact q1
    · have e2 := e_Fo_push (J := J1) (n := n) (i := i + 1) (w := w) lF h1 (show r.length < 25 by omega) (hnx (by omega))
      have q1 := fo_R_push (i := i + 1) (w := w) d1 hR
      by_cases hz : pl = 0
      · simp (disch := omega) only [ev_b, hk, li_0, li_1, li_2, li_3, li_4, li_5, nI_eq, nI_add, ev_it, ev_if, ev_ob lF.1, ev_I, ev_R, r5, ev_ob lP.1, hpl, e2]
        refine ⟨_, _, rfl, ?_, fo_K_trans hK fo_K_push⟩
        simp only [fo_nx, fo_en, hk, hz]
        exact q1
      · simp (disch := omega) only [ev_b, hk, li_0, li_1, li_2, li_3, li_4, li_5, nI_eq, nI_add, ev_it, ev_if, ev_ob lF.1, ev_I, ev_R, r5, ev_ob lP.1, hpl, e2]
        refine ⟨_, _, rfl, ?_, hK⟩
        simp only [fo_nx, fo_en, hk, hz]
        exact hR
    · have s1 : pg_e P i = true := by simp [pg_e, hk]
      rw [if_pos s1] at c2'
      have e2 := e_Fo_push (J := J1) (n := n) (i := i + 1) (w := w) lF h1 (show r.length < 25 by omega) (hnx (by omega))
      have q1 := fo_R_push (i := i + 1) (w := w) d1 hR
      have e3 := e_TL_add (J := J1) (n := n) (i := i) (w := w) lT h5.1 (show l.length < 25 by omega)
      have q3 := fo_R_add (i := i) (w := w) d1 hR
      by_cases hz : ru = 1
      · simp (disch := omega) only [ev_b, hk, li_0, li_1, li_2, li_3, li_4, li_5, li_6, nI_eq, nI_add, ev_it, ev_if, ev_ob lF.1, ev_I, ev_R, r5, ev_ob lP.1, hru, e2]
        refine ⟨_, _, rfl, ?_, fo_K_trans hK fo_K_push⟩
        simp only [fo_nx, fo_en, hk, hz]
        exact q1
      · by_cases hz2 : ru = 2
        · simp (disch := omega) only [ev_b, hk, li_0, li_1, li_2, li_3, li_4, li_5, li_6, nI_eq, nI_add, ev_it, ev_if, ev_ob lF.1, ev_I, ev_R, r5, r6, ev_ob lP.1, ev_ob lT.1, hru, e3]
          refine ⟨_, _, rfl, ?_, fo_K_trans hK (fo_K_add d1)⟩
          simp only [fo_nx, fo_en, hk, hz2]
          exact q3
        · simp (disch := omega) only [ev_b, hk, li_0, li_1, li_2, li_3, li_4, li_5, li_6, nI_eq, nI_add, ev_it, ev_if, ev_ob lF.1, ev_I, ev_R, r5, ev_ob lP.1, hru]
          refine ⟨_, _, rfl, ?_, hK⟩
          simp only [fo_nx, fo_en, hk, hz, hz2]
          exact hR
    · have s1 : pg_e P i = true := by unfold pg_e; exact decide_eq_true (by omega)
      rw [if_pos s1] at c2'
      have e3 := e_TL_add (J := J1) (n := n) (i := i) (w := w) lT h5.1 (show l.length < 25 by omega)
      have q3 := fo_R_add (i := i) (w := w) d1 hR
      simp (disch := omega) only [ev_b, li_0, li_1, li_2, li_3, li_4, li_5, li_6, nI_eq, nI_add, ev_it, ev_if, ev_ob lF.1, ev_I, ev_R, r5, r6, ev_ob lP.1, ev_ob lT.1, e3]
      refine ⟨_, _, rfl, ?_, fo_K_trans hK (fo_K_add d1)⟩
      have x2 : fo_nx P pl ru i w = [] := by
        unfold fo_nx
        rw [if_neg (by omega), if_neg (by omega), if_neg (by omega), if_neg (by omega), if_neg (by omega)]
      have x3 : fo_en P ru i = true := by
        unfold fo_en
        rw [if_neg (by omega)]; exact decide_eq_true hk
      rw [x2, x3]
      exact q3
/-- the loop of follow -/
theorem e_Fo_loop {pl ru : Nat} (hC : fo_C sh R f t g) (hW : pg_W P) (hb : pl < 31) (hb2 : ru < 3) : ∀ (k N c : Nat) (s : fo_S) (I : Nat → Nat → Int32) (J : Nat → Nat → Int64), k < N → c + fo_m P s ≤ 99 → fo_m P s ≤ k → pg_R I g P → I f 7 = nI pl → I f 8 = nI ru → fo_I P s → fo_R I J f t s →
    ∃ I' J', L_Fo_follow_24 N (some f) (nI c) (sh, I, J, R, n) = some (sh, I', J', R, n) ∧ fo_R I' J' f t (fo_n P pl ru k s) ∧ fo_K f t I I' J J'
  | k, 0, _, _, _, _, h, _, _, _, _, _, _, _ => by omega
  | k, N + 1, c, (stk, m, tw, l), I, J, hk, hc, hmk, hp, hpl, hru, hI, hR => by
    obtain ⟨lF, lT, lP, r5, r6, d1, d2, d3⟩ := hC
    have hlen : stk.length ≤ 25 := by have := hI.2.1; simp only at this; omega
    have hR' := hR
    obtain ⟨h1, h2, h3, h4, h5⟩ := hR'
    unfold L_Fo_follow_24
    match stk with
    | [] =>
      have h1 : I f 2 = nI 0 := h1
      refine ⟨I, J, ?_, by rw [fo_e]; exact hR, fo_K_refl⟩
      by_cases hc9 : 99 ≤ c
      · simp (disch := omega) only [li_99, nI_leI, ev_it]
      · simp (disch := omega) only [li_99, li_0, nI_leI, ev_it, ev_if, ev_b, ev_ob lF.1, ev_I, h1]
    | (i, w) :: r =>
      have hm0 : 1 ≤ fo_m P ((i, w) :: r, m, tw, l) := by unfold fo_m; simp only [List.length_cons]; omega
      match k with
      | 0 => omega
      | k + 1 =>
        have h1 : I f 2 = nI (r.length + 1) := h1
        obtain ⟨q1, q2, q3⟩ := h2
        have hl2 : r.length + 1 ≤ 25 := hlen
        have e0 : (sh, hv_u I f 2 (nI (r.length)), J, R, n) = (sh, hv_u I f 2 (nI (r.length)), J, R, n) := rfl
        have hR1 : fo_R (hv_u I f 2 (nI r.length)) J f t (r, m, tw, l) := by
          refine ⟨ev_us, st_R_mono r (fun j hj => ?_) q3, h3, ?_, ?_, fun j e he => ?_⟩
          · rw [ev_ua (by omega)]; exact ⟨rfl, rfl⟩
          · rw [ev_uk (by omega)]; exact h4
          · rw [ev_ua (by omega)]; exact h5.1
          · rw [ev_ua (by omega)]; exact h5.2 j e he
        have hK1 : fo_K f t I (hv_u I f 2 (nI r.length)) J J := by
          refine ⟨fun a j g1 g2 => ?_, fun j hj => ?_⟩
          · rw [ev_ua (by omega)]; exact ⟨rfl, rfl⟩
          · rw [ev_uk (by omega)]
        obtain ⟨I1, J1, e1, R1, K1⟩ := e_Fo_step (n := n) (i := i) (pl := pl) (ru := ru) (w := w) ⟨lF, lT, lP, r5, r6, d1, d2, d3⟩ (pg_R_K hK1 d2 d3 hp) hW (by rw [ev_uk (by decide)]; exact hpl) (by rw [ev_uk (by decide)]; exact hru) hb hb2 hI hR1
        have K2 := fo_K_trans hK1 K1
        have hinv := fo_inv (pl := pl) (ru := ru) hW hI
        have hdec := hinv.2 (by simp)
        obtain ⟨I2, J2, e2, R2, K3⟩ := e_Fo_loop ⟨lF, lT, lP, r5, r6, d1, d2, d3⟩ hW hb hb2 k N (c + 1) (fo_1 P pl ru ((i, w) :: r, m, tw, l)) I1 J1 (by omega) (by omega) (by omega) (pg_R_K K2 d2 d3 hp) ((K2.2 7 (Or.inl rfl)).trans hpl) ((K2.2 8 (Or.inr rfl)).trans hru) hinv.1 R1
        refine ⟨I2, J2, ?_, R2, fo_K_trans K2 K3⟩
        simp (disch := omega) only [li_99, li_0, li_1, li_25, nI_leI, nI_ltI, nI_add, pk_sub, ev_it, ev_if, ev_b, ev_ob lF.1, ev_I, ev_J, ev_R, ev_sI, h1, Nat.add_sub_cancel, lF.2.2.2.1, lF.2.2.2.2, ev_ar0 lF.2.1, ev_ar1 lF.2.2.1, ev_us, ev_ix, ev_ua, q1, q2, e1, e2]
theorem e_Fo_follow {i pl ru : Nat} {w : Int64} {s : (Nat → Bool) × Bool × List (Nat × Int64)} (hC : fo_C sh R f t g) (hp : pg_R I g P) (hW : pg_W P) (hpl : I f 7 = nI pl) (hru : I f 8 = nI ru) (hb : pl < 31) (hb2 : ru < 3) (hi : i < P.1) (hJ : fo_J P s) (h : fo_R I J f t ([], s)) :
    ∃ I' J', f_Fo_follow f (nI i) w (sh, I, J, R, n) = some (sh, I', J', R, n) ∧ fo_R I' J' f t ([], fo_F P pl ru i w s) ∧ fo_K f t I I' J J' := by
  obtain ⟨lF, lT, lP, r5, r6, d1, d2, d3⟩ := hC
  obtain ⟨m, tw, l⟩ := s
  have hn := hW.2.1
  obtain ⟨j1, j2⟩ := fo_JI (w := w) hW hJ hi
  have h1 : I f 2 = nI 0 := h.1
  have e1 := e_Fo_push (J := J) (n := n) (i := i) (w := w) lF h1 (by omega) (by omega)
  have q1 := fo_R_push (i := i) (w := w) d1 h
  have k1 := fo_K_push (f := f) (t := t) (I := I) (J := J) (c := 0) (i := i) (w := w) (v := nI 1)
  obtain ⟨I2, J2, e2, R2, K2⟩ := e_Fo_loop (n := n) (pl := pl) (ru := ru) ⟨lF, lT, lP, r5, r6, d1, d2, d3⟩ hW hb hb2 fo_N.1 100000 0 ([(i, w)], m, tw, l) _ _ (by rw [fo_N.2]; omega) (by omega) (by rw [fo_N.2]; exact j2) (pg_R_K k1 d2 d3 hp) ((k1.2 7 (Or.inl rfl)).trans hpl) ((k1.2 8 (Or.inr rfl)).trans hru) j1 q1
  refine ⟨I2, J2, ?_, ?_, fo_K_trans k1 K2⟩
  · simp only [f_Fo_follow, ev_b, ev_ob lF.1, ev_R, r5, r6, e1]
    rw [if_neg (by simp), if_neg (by simp)]
    have e2' : L_Fo_follow_24 100000 (some f) 0 (sh, hv_u (hv_u I (f + 1) 0 (nI i)) f 2 (nI (0 + 1)), hv_u J (f + 2) 0 w, R, n) = some (sh, I2, J2, R, n) := e2
    rw [e2', ev_b]
  · have hz := (fo_end (pl := pl) (ru := ru) hW fo_N.1 _ j1 (by rw [fo_N.2]; exact j2)).1
    unfold fo_F
    generalize fo_n P pl ru fo_N.1 ([(i, w)], m, tw, l) = z at R2 hz ⊢
    obtain ⟨z1, z2⟩ := z
    have hz : z1 = [] := hz
    subst hz
    exact R2
theorem e_Fo_begin {pl ru : Nat} (lF : ly_F sh R f) (lT : ly_T sh R t) (d : f + 2 < t ∨ t + 2 < f) :
    ∃ I' J' R', f_Fo_begin f (some g) (some t) (nI pl) (nI ru) (sh, I, J, R, n) = some (sh, I', J', R', n) ∧ fo_R I' J' f t ([], fun _ => false, false, []) ∧ I' f 7 = nI pl ∧ I' f 8 = nI ru ∧ (∀ a k, (a < f ∨ f + 2 < a) → (a < t ∨ t + 2 < a) → I' a k = I a k ∧ J' a k = J a k) ∧ R' f 5 = some g ∧ R' f 6 = some t ∧ (∀ a k, (a ≠ f ∨ (k ≠ 5 ∧ k ≠ 6)) → R' a k = R a k) := by
  obtain ⟨h0, h1, h2, r0, r1⟩ := lF
  obtain ⟨g0, g1, g2, s0, s1⟩ := lT
  simp only [f_Fo_begin, f_TL_empty, ev_b, ev_ob h0, ev_R, ev_sI, ev_sJ, ev_sR, ev_us, ev_ob g0, reduceCtorEq, if_false]
  refine ⟨_, _, _, rfl, ⟨?_, trivial, fun j hj => ?_, ?_, ?_, fun k e he => ?_⟩, ?_, ?_, fun a k q1 q2 => ⟨?_, ?_⟩, ?_, ev_us, fun a k q => ?_⟩
  · rw [ev_ua (by omega), ev_uk (by omega), ev_us]; rfl
  · rw [ev_us, mk_0]
  · rw [ev_ua (by omega), ev_us]; rfl
  · rw [ev_us]; rfl
  · simp at he
  · rw [ev_ua (by omega), ev_uk (by omega), ev_uk (by omega), ev_uk (by omega), ev_us]
  · rw [ev_ua (by omega), ev_uk (by omega), ev_uk (by omega), ev_us]
  · rw [ev_ua (by omega), ev_ua (by omega), ev_ua (by omega), ev_ua (by omega), ev_ua (by omega)]
  · rw [ev_ua (by omega)]
  · rw [ev_uk (by omega), ev_us]
  · rcases q with q | ⟨q, q'⟩
    · rw [ev_ua q, ev_ua q]
    · rw [ev_uk q', ev_uk q]
end FO
