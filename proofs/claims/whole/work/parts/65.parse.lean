/-! READING A PATTERN, in the abstract: kind 8 is a GO that is still open, with its depth -/
abbrev cd : Type := List (Nat × Nat × Nat)
abbrev sc_T : Type := Nat × (Nat → Nat)
def cs_h (b : Nat) (i : Nat × Nat × Nat) : Nat × Nat × Nat := (i.1, if (i.1 = 2 ∨ i.1 = 3) ∧ b ≤ i.2.1 then i.2.1 + 1 else i.2.1, if i.1 = 2 ∧ b ≤ i.2.2 then i.2.2 + 1 else i.2.2)
def cs_i (b x y : Nat) (c : cd) : cd := c.take b ++ (2, x, y) :: (c.drop b).map (cs_h b)
def cs_l (d : Nat) (c : cd) : cd := c.map (fun i => if i.1 = 8 ∧ i.2.1 = d then (3, c.length, i.2.2) else i)
def sp (s : sc_T) (a : Nat) : Option Nat := if a < s.1 then some (s.2 a) else none
def isg (o : Option Nat) : Bool := decide (o = some 63 ∨ o = some 42 ∨ o = some 43)
/-- code behind a sign -/
def cs_s (o : Option Nat) (lz : Bool) (b : Nat) (c : cd) : cd :=
  if o = some 43 then c ++ [if lz then (2, c.length + 1, b) else (2, b, c.length + 1)]
  else if o = some 42 then (if lz then cs_i b (c.length + 2) (b + 1) c else cs_i b (b + 1) (c.length + 2) c) ++ [(3, b, 0)]
  else (if lz then cs_i b (c.length + 1) (b + 1) c else cs_i b (b + 1) (c.length + 1) c)
def sg_c (s : sc_T) (a b : Nat) (c : cd) : cd := if isg (sp s a) then cs_s (sp s a) (decide (sp s (a + 1) = some 63)) b c else c
def sg_a (s : sc_T) (a : Nat) : Nat := if isg (sp s a) then (if sp s (a + 1) = some 63 then a + 2 else a + 1) else a
/-- the instruction of a character that stands for itself -/
def atm (c : Nat) : Option (Nat × Nat) := if 97 ≤ c ∧ c ≤ 104 then some (0, c - 97) else if c = 46 then some (1, 0) else if c = 94 then some (5, 0) else if c = 36 then some (6, 0) else none
def fu (f : Nat → Nat) (d v : Nat) : Nat → Nat := fun e => if e = d then v else f e
def mr (s : sc_T) : Nat → Nat → cd → Nat → Nat → (Nat → Nat) → (Nat → Nat) → (Nat → Nat) → Option cd
  | 0, _, _, _, _, _, _, _ => none
  | k + 1, a, c, d, n, sq, op, gr =>
    match sp s a with
    | none => if d = 0 then some (cs_l 0 c ++ [(7, 0, 0)]) else none
    | some ch =>
      if ch = 124 then mr s k (a + 1) (cs_i (sq d) (sq d + 1) (c.length + 2) c ++ [(8, d, 0)]) d n (fu sq d (c.length + 2)) op gr
      else if ch = 40 ∧ n < 3 then mr s k (a + 1) (c ++ [(4, 2 * (n + 1), 0)]) (d + 1) (n + 1) (fu sq (d + 1) (c.length + 1)) (fu op (d + 1) c.length) (fu gr (d + 1) (n + 1))
      else if ch = 41 ∧ 0 < d then mr s k (sg_a s (a + 1)) (sg_c s (a + 1) (op d) (cs_l d c ++ [(4, 2 * gr d + 1, 0)])) (d - 1) n sq op gr
      else match atm ch with
        | some ky => mr s k (sg_a s (a + 1)) (sg_c s (a + 1) c.length (c ++ [(ky.1, ky.2, 0)])) d n sq op gr
        | none => none
/-! what holds of the code -/
def cn (q : Nat → Bool) (c : cd) : Nat := c.countP (fun i => q i.1)
theorem cn_a {q : Nat → Bool} {c c' : cd} : cn q (c ++ c') = cn q c + cn q c' := by unfold cn; rw [List.countP_append]
theorem cn_h {q : Nat → Bool} {b : Nat} {c : cd} : cn q (c.map (cs_h b)) = cn q c := by unfold cn; rw [List.countP_map]; rfl
theorem cn_i {q : Nat → Bool} {b x y : Nat} {c : cd} : cn q (cs_i b x y c) = cn q c + (if q 2 then 1 else 0) := by
  unfold cs_i
  rw [cn_a]
  have h1 : cn q ((2, x, y) :: (c.drop b).map (cs_h b)) = cn q ((c.drop b).map (cs_h b)) + (if q 2 then 1 else 0) := by
    unfold cn
    rw [List.countP_cons]
  have h2 : cn q c = cn q (c.take b) + cn q (c.drop b) := by rw [← cn_a, List.take_append_drop]
  rw [h1, cn_h, h2]
  omega
theorem cn_1 {q : Nat → Bool} {i : Nat × Nat × Nat} : cn q [i] = if q i.1 then 1 else 0 := by
  unfold cn
  rw [List.countP_cons]
  simp
theorem cs_il {b x y : Nat} {c : cd} (h : b ≤ c.length) : (cs_i b x y c).length = c.length + 1 := by
  unfold cs_i
  simp
  omega
theorem cs_ll {d : Nat} {c : cd} : (cs_l d c).length = c.length := by unfold cs_l; simp
def cok (n d : Nat) (i : Nat × Nat × Nat) : Prop := (i.1 ≤ 6 ∨ i.1 = 8) ∧ (i.1 = 2 → i.2.1 ≤ n ∧ i.2.2 ≤ n) ∧ (i.1 = 3 → i.2.1 ≤ n) ∧ (i.1 = 4 → 2 ≤ i.2.1 ∧ i.2.1 < 8) ∧ (i.1 = 0 → i.2.1 < 8) ∧ (i.1 = 8 → i.2.1 ≤ d)
def ksp : Nat → Bool := fun k => decide (k = 2)
def kent : Nat → Bool := fun k => decide (k < 2 ∨ k = 6 ∨ k = 7)
def ci (c : cd) (a d : Nat) : Prop := c.length ≤ 2 * a ∧ cn ksp c ≤ a ∧ cn kent c ≤ a ∧ ∀ i, i ∈ c → cok c.length d i
theorem cok_le {n m d : Nat} {i : Nat × Nat × Nat} (h : n ≤ m) (hi : cok n d i) : cok m d i := by
  obtain ⟨h1, h2, h3, h4, h5, h6⟩ := hi
  exact ⟨h1, fun h' => by have := h2 h'; omega, fun h' => by have := h3 h'; omega, h4, h5, h6⟩
theorem cok_h {n d b : Nat} {i : Nat × Nat × Nat} (hi : cok n d i) : cok (n + 1) d (cs_h b i) := by
  obtain ⟨h1, h2, h3, h4, h5, h6⟩ := hi
  have ex : (cs_h b i).2.1 ≤ i.2.1 + 1 := by
    show (if (i.1 = 2 ∨ i.1 = 3) ∧ b ≤ i.2.1 then i.2.1 + 1 else i.2.1) ≤ i.2.1 + 1
    split <;> omega
  have ey : (cs_h b i).2.2 ≤ i.2.2 + 1 := by
    show (if i.1 = 2 ∧ b ≤ i.2.2 then i.2.2 + 1 else i.2.2) ≤ i.2.2 + 1
    split <;> omega
  have e0 : i.1 ≠ 2 → i.1 ≠ 3 → (cs_h b i).2.1 = i.2.1 := fun q1 q2 => by
    show (if (i.1 = 2 ∨ i.1 = 3) ∧ b ≤ i.2.1 then i.2.1 + 1 else i.2.1) = i.2.1
    rw [if_neg (by omega)]
  refine ⟨h1, fun h => ?_, fun h => ?_, fun h => ?_, fun h => ?_, fun h => ?_⟩
  · have := h2 h; omega
  · have := h3 h; omega
  · have h : i.1 = 4 := h
    rw [e0 (by omega) (by omega)]; exact h4 h
  · have h : i.1 = 0 := h
    rw [e0 (by omega) (by omega)]; exact h5 h
  · have h : i.1 = 8 := h
    rw [e0 (by omega) (by omega)]; exact h6 h
theorem ok_i {d b x y : Nat} {c : cd} (hb : b ≤ c.length) (hx : x ≤ c.length + 1) (hy : y ≤ c.length + 1) (h : ∀ i, i ∈ c → cok c.length d i) : ∀ i, i ∈ cs_i b x y c → cok (c.length + 1) d i := by
  intro i hi
  unfold cs_i at hi
  rcases List.mem_append.mp hi with hi | hi
  · exact cok_le (by omega) (h i (List.mem_of_mem_take hi))
  · rcases List.mem_cons.mp hi with hi | hi
    · subst hi
      exact ⟨Or.inl (by show 2 ≤ 6; omega), fun _ => ⟨hx, hy⟩, fun h => (by cases h), fun h => (by cases h), fun h => (by cases h), fun h => (by cases h)⟩
    · obtain ⟨j, q1, q2⟩ := List.mem_map.mp hi
      subst q2
      exact cok_h (h j (List.mem_of_mem_drop q1))
theorem ok_i2 {d b x y m : Nat} {c : cd} (hb : b ≤ c.length) (hm : c.length + 1 ≤ m) (hx : x ≤ m) (hy : y ≤ m) (h : ∀ i, i ∈ c → cok c.length d i) : ∀ i, i ∈ cs_i b x y c → cok m d i := by
  intro i hi
  unfold cs_i at hi
  rcases List.mem_append.mp hi with hi | hi
  · exact cok_le (by omega) (h i (List.mem_of_mem_take hi))
  · rcases List.mem_cons.mp hi with hi | hi
    · subst hi
      exact ⟨Or.inl (by show 2 ≤ 6; omega), fun _ => ⟨hx, hy⟩, fun h => (by cases h), fun h => (by cases h), fun h => (by cases h), fun h => (by cases h)⟩
    · obtain ⟨j, q1, q2⟩ := List.mem_map.mp hi
      subst q2
      exact cok_le hm (cok_h (h j (List.mem_of_mem_drop q1)))
theorem ok_a {n m d : Nat} {c : cd} {i : Nat × Nat × Nat} (hm : n ≤ m) (h : ∀ j, j ∈ c → cok n d j) (hi : cok m d i) : ∀ j, j ∈ c ++ [i] → cok m d j := by
  intro j hj
  rcases List.mem_append.mp hj with hj | hj
  · exact cok_le hm (h j hj)
  · simp only [List.mem_cons, List.not_mem_nil, or_false] at hj
    subst hj
    exact hi
theorem ci_s {o : Option Nat} {lz : Bool} {a b d : Nat} {c : cd} (hb : b ≤ c.length) (h : ci c a d) : ci (cs_s o lz b c) (a + 1) d ∧ c.length < (cs_s o lz b c).length := by
  obtain ⟨h1, h2, h3, h4⟩ := h
  have k2 : ksp 2 = true := rfl
  have k3 : ksp 3 = false := rfl
  have e2 : kent 2 = false := rfl
  have e3 : kent 3 = false := rfl
  unfold cs_s
  split
  · have hl : (c ++ [if lz then (2, c.length + 1, b) else (2, b, c.length + 1)]).length = c.length + 1 := by simp
    have hk : (if lz then (2, c.length + 1, b) else (2, b, c.length + 1) : Nat × Nat × Nat).1 = 2 := by split <;> rfl
    refine ⟨⟨by omega, ?_, ?_, ?_⟩, by omega⟩
    · rw [cn_a, cn_1, hk, k2, if_pos rfl]; omega
    · rw [cn_a, cn_1, hk, e2, if_neg (by simp)]; omega
    · rw [hl]
      refine ok_a (by omega) h4 ?_
      split
      · exact ⟨Or.inl (by show 2 ≤ 6; omega), fun _ => ⟨by show c.length + 1 ≤ _; omega, by show b ≤ _; omega⟩, fun h => (by cases h), fun h => (by cases h), fun h => (by cases h), fun h => (by cases h)⟩
      · exact ⟨Or.inl (by show 2 ≤ 6; omega), fun _ => ⟨by show b ≤ _; omega, by show c.length + 1 ≤ _; omega⟩, fun h => (by cases h), fun h => (by cases h), fun h => (by cases h), fun h => (by cases h)⟩
  · split
    · have hl : ∀ x y, (cs_i b x y c ++ [(3, b, 0)]).length = c.length + 2 := fun x y => by rw [List.length_append, cs_il hb]; rfl
      have hh : ∀ x y, x ≤ c.length + 2 → y ≤ c.length + 2 → ci (cs_i b x y c ++ [(3, b, 0)]) (a + 1) d := fun x y hx hy => by
        refine ⟨by rw [hl]; omega, ?_, ?_, ?_⟩
        · rw [cn_a, cn_i, cn_1, k2, if_pos rfl, k3, if_neg (by simp)]; omega
        · rw [cn_a, cn_i, cn_1, e2, if_neg (by simp), e3, if_neg (by simp)]; omega
        · rw [hl]
          refine ok_a (n := c.length + 2) (Nat.le_refl _) (ok_i2 hb (by omega) hx hy h4) ?_
          exact ⟨Or.inl (by show 3 ≤ 6; omega), fun h => (by cases h), fun _ => by show b ≤ _; omega, fun h => (by cases h), fun h => (by cases h), fun h => (by cases h)⟩
      split
      · exact ⟨hh _ _ (by omega) (by omega), by rw [hl]; omega⟩
      · exact ⟨hh _ _ (by omega) (by omega), by rw [hl]; omega⟩
    · have hh : ∀ x y, x ≤ c.length + 1 → y ≤ c.length + 1 → ci (cs_i b x y c) (a + 1) d := fun x y hx hy => by
        refine ⟨by rw [cs_il hb]; omega, ?_, ?_, ?_⟩
        · rw [cn_i, k2, if_pos rfl]; omega
        · rw [cn_i, e2, if_neg (by simp)]; omega
        · rw [cs_il hb]; exact ok_i hb hx hy h4
      split
      · exact ⟨hh _ _ (by omega) (by omega), by rw [cs_il hb]; omega⟩
      · exact ⟨hh _ _ (by omega) (by omega), by rw [cs_il hb]; omega⟩
theorem ci_le {c : cd} {a a' d d' : Nat} (h : a ≤ a') (hd : d ≤ d') (hc : ci c a d) : ci c a' d' := by
  obtain ⟨h1, h2, h3, h4⟩ := hc
  exact ⟨by omega, by omega, by omega, fun i hi => by
    obtain ⟨q1, q2, q3, q4, q5, q6⟩ := h4 i hi
    exact ⟨q1, q2, q3, q4, q5, fun h => by have := q6 h; omega⟩⟩
theorem sp_lt {s : sc_T} {a : Nat} {c : Nat} (h : sp s a = some c) : a < s.1 ∧ s.2 a = c := by
  unfold sp at h
  split at h
  · next hh => injection h with h; exact ⟨hh, h⟩
  · cases h
theorem isg_lt {s : sc_T} {a : Nat} (h : isg (sp s a) = true) : a < s.1 := by
  unfold isg at h
  rw [decide_eq_true_eq] at h
  rcases h with h | h | h
  · exact (sp_lt h).1
  · exact (sp_lt h).1
  · exact (sp_lt h).1
theorem sg_a_le {s : sc_T} {a : Nat} (h : a ≤ s.1) : a ≤ sg_a s a ∧ sg_a s a ≤ s.1 := by
  unfold sg_a
  split
  · next hg =>
    have := isg_lt hg
    split
    · next h2 => have := (sp_lt h2).1; omega
    · omega
  · omega
theorem ci_g {s : sc_T} {a b d : Nat} {c : cd} (hb : b ≤ c.length) (h : ci c a d) : ci (sg_c s a b c) (sg_a s a) d ∧ c.length ≤ (sg_c s a b c).length := by
  unfold sg_c sg_a
  by_cases hg : isg (sp s a) = true
  · rw [if_pos hg, if_pos hg]
    obtain ⟨h1, h2⟩ := ci_s (o := sp s a) (lz := decide (sp s (a + 1) = some 63)) hb h
    exact ⟨ci_le (by split <;> omega) (Nat.le_refl _) h1, by omega⟩
  · rw [if_neg hg, if_neg hg]
    exact ⟨h, Nat.le_refl _⟩
theorem ci_l {c : cd} {a d : Nat} (h : ci c a d) (h0 : 0 < d) : ci (cs_l d c) a (d - 1) := by
  obtain ⟨h1, h2, h3, h4⟩ := h
  have hcn : ∀ q : Nat → Bool, q 3 = q 8 → cn q (cs_l d c) = cn q c := fun q hq => by
    unfold cn cs_l
    rw [List.countP_map]
    apply List.countP_congr
    intro i _
    show q (if i.1 = 8 ∧ i.2.1 = d then (3, c.length, i.2.2) else i).1 = true ↔ q i.1 = true
    split
    · next hh => rw [hh.1]; show q 3 = true ↔ q 8 = true; rw [hq]
    · rfl
  refine ⟨by rw [cs_ll]; exact h1, by rw [hcn ksp rfl]; exact h2, by rw [hcn kent rfl]; exact h3, fun i hi => ?_⟩
  rw [cs_ll]
  unfold cs_l at hi
  obtain ⟨j, q1, q2⟩ := List.mem_map.mp hi
  subst q2
  obtain ⟨z1, z2, z3, z4, z5, z6⟩ := h4 j q1
  split
  · exact ⟨Or.inl (by show 3 ≤ 6; omega), fun h => (by cases h), fun _ => by show c.length ≤ _; omega, fun h => (by cases h), fun h => (by cases h), fun h => (by cases h)⟩
  · next hn => exact ⟨z1, z2, z3, z4, z5, fun h => by have := z6 h; have : ¬ j.2.1 = d := fun e => hn ⟨h, e⟩; omega⟩
theorem ci_a1 {c : cd} {a d k x : Nat} (h : ci c a d) (hk : k = 0 ∨ k = 1 ∨ k = 4 ∨ k = 5 ∨ k = 6) (h4 : k = 4 → 2 ≤ x ∧ x < 8) (h0 : k = 0 → x < 8) : ci (c ++ [(k, x, 0)]) (a + 1) d := by
  obtain ⟨h1, h2, h3, h5⟩ := h
  refine ⟨by simp; omega, ?_, ?_, ?_⟩
  · rw [cn_a, cn_1]
    have : ksp k = false := by unfold ksp; exact decide_eq_false (by omega)
    show cn ksp c + (if ksp k = true then 1 else 0) ≤ _
    rw [this, if_neg (by simp)]; omega
  · rw [cn_a, cn_1]
    have : (if kent k = true then 1 else 0) ≤ 1 := by split <;> omega
    show cn kent c + (if kent k = true then 1 else 0) ≤ _
    omega
  · have hl : (c ++ [(k, x, 0)]).length = c.length + 1 := by simp
    rw [hl]
    refine ok_a (by omega) h5 ⟨Or.inl (by show k ≤ 6; omega), fun h => ?_, fun h => ?_, h4, h0, fun h => ?_⟩
    · have h : k = 2 := h; omega
    · have h : k = 3 := h; omega
    · have h : k = 8 := h; omega
theorem ci_bar {c : cd} {a b d : Nat} (hb : b ≤ c.length) (h : ci c a d) : ci (cs_i b (b + 1) (c.length + 2) c ++ [(8, d, 0)]) (a + 1) d := by
  obtain ⟨h1, h2, h3, h4⟩ := h
  have hl : (cs_i b (b + 1) (c.length + 2) c ++ [(8, d, 0)]).length = c.length + 2 := by rw [List.length_append, cs_il hb]; rfl
  refine ⟨by rw [hl]; omega, ?_, ?_, ?_⟩
  · rw [cn_a, cn_i, cn_1]
    show cn ksp c + 1 + 0 ≤ _
    omega
  · rw [cn_a, cn_i, cn_1]
    show cn kent c + 0 + 0 ≤ _
    omega
  · rw [hl]
    refine ok_a (n := c.length + 2) (Nat.le_refl _) (ok_i2 hb (by omega) (by omega) (by omega) h4) ?_
    exact ⟨Or.inr rfl, fun h => (by cases h), fun h => (by cases h), fun h => (by cases h), fun h => (by cases h), fun _ => Nat.le_refl _⟩
/-! the program that it makes -/
def pg_of (c : cd) : pg_P := (c.length, fun i => (c.getD i (0, 0, 0)).1, fun i => (c.getD i (0, 0, 0)).2.1, fun i => (c.getD i (0, 0, 0)).2.2)
theorem ct_sh (f : Nat → Bool) : ∀ n, ct f (n + 1) = (if f 0 then 1 else 0) + ct (fun i => f (i + 1)) n
  | 0 => by show 0 + (if f 0 then 1 else 0) = (if f 0 then 1 else 0) + 0; omega
  | n + 1 => by
    show ct f (n + 1) + (if f (n + 1) then 1 else 0) = (if f 0 then 1 else 0) + (ct (fun i => f (i + 1)) n + (if f (n + 1) then 1 else 0))
    rw [ct_sh f n]
    omega
theorem ct_cn {q : Nat → Bool} : ∀ (c : cd) (f : Nat → Bool), (∀ i, i < c.length → f i = q (c.getD i (0, 0, 0)).1) → ct f c.length = cn q c
  | [], f, _ => rfl
  | e :: c, f, h => by
    rw [List.length_cons, ct_sh, ct_cn c (fun i => f (i + 1)) (fun i hi => by
      have := h (i + 1) (by rw [List.length_cons]; omega)
      exact this)]
    have h0 : f 0 = q e.1 := h 0 (by rw [List.length_cons]; omega)
    rw [h0]
    unfold cn
    rw [List.countP_cons]
    omega
theorem pg_ofW {c : cd} {a : Nat} (h : ci c a 0) (ha : a ≤ 24) : pg_W (pg_of (cs_l 0 c ++ [(7, 0, 0)])) := by
  obtain ⟨h1, h2, h3, h4⟩ := h
  have hl : (cs_l 0 c ++ [(7, 0, 0)]).length = c.length + 1 := by rw [List.length_append, cs_ll]; rfl
  have hcn : ∀ q : Nat → Bool, q 3 = q 8 → cn q (cs_l 0 c) = cn q c := fun q hq => by
    unfold cn cs_l
    rw [List.countP_map]
    apply List.countP_congr
    intro i _
    show q (if i.1 = 8 ∧ i.2.1 = 0 then (3, c.length, i.2.2) else i).1 = true ↔ q i.1 = true
    split
    · next hh => rw [hh.1]; show q 3 = true ↔ q 8 = true; rw [hq]
    · rfl
  have hin : ∀ i, i < c.length → ∃ j, j ∈ c ∧ (cs_l 0 c ++ [(7, 0, 0)]).getD i (0, 0, 0) = (if j.1 = 8 ∧ j.2.1 = 0 then (3, c.length, j.2.2) else j) := fun i hi => by
    refine ⟨c[i], List.getElem_mem hi, ?_⟩
    rw [List.getD_eq_getElem?_getD, List.getElem?_append_left (by rw [cs_ll]; exact hi)]
    unfold cs_l
    rw [List.getElem?_map, List.getElem?_eq_getElem hi]
    rfl
  refine ⟨by show 1 ≤ (cs_l 0 c ++ [(7, 0, 0)]).length; omega, by show (cs_l 0 c ++ [(7, 0, 0)]).length ≤ 49; omega, fun i hi => ?_, ?_, ?_⟩
  · have hi : i < (cs_l 0 c ++ [(7, 0, 0)]).length := hi
    show ((cs_l 0 c ++ [(7, 0, 0)]).getD i (0, 0, 0)).1 ≤ 7 ∧ (((cs_l 0 c ++ [(7, 0, 0)]).getD i (0, 0, 0)).1 = 7 ↔ i + 1 = (cs_l 0 c ++ [(7, 0, 0)]).length) ∧ (((cs_l 0 c ++ [(7, 0, 0)]).getD i (0, 0, 0)).1 = 2 → ((cs_l 0 c ++ [(7, 0, 0)]).getD i (0, 0, 0)).2.1 < (cs_l 0 c ++ [(7, 0, 0)]).length ∧ ((cs_l 0 c ++ [(7, 0, 0)]).getD i (0, 0, 0)).2.2 < (cs_l 0 c ++ [(7, 0, 0)]).length) ∧ (((cs_l 0 c ++ [(7, 0, 0)]).getD i (0, 0, 0)).1 = 3 → ((cs_l 0 c ++ [(7, 0, 0)]).getD i (0, 0, 0)).2.1 < (cs_l 0 c ++ [(7, 0, 0)]).length) ∧ (((cs_l 0 c ++ [(7, 0, 0)]).getD i (0, 0, 0)).1 = 4 → 2 ≤ ((cs_l 0 c ++ [(7, 0, 0)]).getD i (0, 0, 0)).2.1 ∧ ((cs_l 0 c ++ [(7, 0, 0)]).getD i (0, 0, 0)).2.1 < 8) ∧ (((cs_l 0 c ++ [(7, 0, 0)]).getD i (0, 0, 0)).1 = 0 → ((cs_l 0 c ++ [(7, 0, 0)]).getD i (0, 0, 0)).2.1 < 8)
    rw [hl] at hi ⊢
    by_cases hic : i < c.length
    · obtain ⟨j, q1, q2⟩ := hin i hic
      obtain ⟨z1, z2, z3, z4, z5, z6⟩ := h4 j q1
      rw [q2]
      by_cases h8 : j.1 = 8
      · have hx : j.2.1 = 0 := by have := z6 h8; omega
        rw [if_pos ⟨h8, hx⟩]
        exact ⟨by show 3 ≤ 7; omega, ⟨fun h => (by cases h), fun h => by omega⟩, fun h => (by cases h), fun _ => by show c.length < _; omega, fun h => (by cases h), fun h => (by cases h)⟩
      · rw [if_neg (fun h => h8 h.1)]
        exact ⟨by omega, ⟨fun h => by omega, fun h => by omega⟩, fun h => by have := z2 h; omega, fun h => by have := z3 h; omega, z4, z5⟩
    · have : i = c.length := by omega
      subst this
      have e : (cs_l 0 c ++ [(7, 0, 0)]).getD c.length (0, 0, 0) = (7, 0, 0) := by
        rw [List.getD_eq_getElem?_getD, List.getElem?_append_right (by rw [cs_ll]; exact Nat.le_refl _), cs_ll, Nat.sub_self]
        rfl
      rw [e]
      exact ⟨Nat.le_refl _, ⟨fun _ => rfl, fun _ => rfl⟩, fun h => (by cases h), fun h => (by cases h), fun h => (by cases h), fun h => (by cases h)⟩
  · show ct (pg_s (pg_of (cs_l 0 c ++ [(7, 0, 0)]))) (cs_l 0 c ++ [(7, 0, 0)]).length ≤ 24
    rw [ct_cn (q := ksp) (cs_l 0 c ++ [(7, 0, 0)]) (pg_s (pg_of (cs_l 0 c ++ [(7, 0, 0)]))) (fun i hi => rfl), cn_a, cn_1, hcn ksp rfl]
    show cn ksp c + 0 ≤ 24
    omega
  · show ct (pg_e (pg_of (cs_l 0 c ++ [(7, 0, 0)]))) (cs_l 0 c ++ [(7, 0, 0)]).length ≤ 25
    rw [ct_cn (q := kent) (cs_l 0 c ++ [(7, 0, 0)]) (pg_e (pg_of (cs_l 0 c ++ [(7, 0, 0)]))) (fun i hi => rfl), cn_a, cn_1, hcn kent rfl]
    show cn kent c + 1 ≤ 25
    omega
