/-! READING A PATTERN: what holds all the while -/
def cb (op : Nat → Nat) (f : Nat) : Nat := if f = 0 then 0 else op f + 1
def tg (c : cd) (d : Nat) (op : Nat → Nat) : Prop := ∀ (k : Nat) (i : Nat × Nat × Nat), c[k]? = some i → i.1 = 8 → ∀ f, f ≤ d → (f ≤ i.2.1 ↔ cb op f ≤ k)
def mI (s : sc_T) (a : Nat) (c : cd) (d n : Nat) (sq op gr : Nat → Nat) : Prop := a ≤ s.1 ∧ s.1 ≤ 24 ∧ ci c a d ∧ n ≤ 3 ∧ d ≤ n ∧ (∀ f, f ≤ d → cb op f ≤ sq f ∧ sq f ≤ c.length) ∧ (∀ f, f < d → sq f ≤ op (f + 1) ∧ op (f + 1) < c.length) ∧ (∀ f, 1 ≤ f → f ≤ d → 1 ≤ gr f ∧ gr f ≤ n) ∧ tg c d op
theorem cs_ig {b x y k : Nat} {c : cd} (hb : b ≤ c.length) : (cs_i b x y c)[k]? = if k < b then c[k]? else if k = b then some (2, x, y) else (c[k - 1]?).map (cs_h b) := by
  unfold cs_i
  have hl : (c.take b).length = b := by simp; omega
  by_cases h1 : k < b
  · rw [if_pos h1, List.getElem?_append_left (by omega), List.getElem?_take, if_pos h1]
  · rw [if_neg h1, List.getElem?_append_right (by omega), hl]
    by_cases h2 : k = b
    · rw [if_pos h2, h2, Nat.sub_self]; rfl
    · rw [if_neg h2, show k - b = (k - b - 1) + 1 from by omega, List.getElem?_cons_succ, List.getElem?_map, List.getElem?_drop]
      rw [show b + (k - b - 1) = k - 1 from by omega]
theorem tg_i {c : cd} {d b x y : Nat} {op : Nat → Nat} (hb : b ≤ c.length) (hcb : ∀ f, f ≤ d → cb op f ≤ b) (h : tg c d op) : tg (cs_i b x y c) d op := by
  intro k i hk h8 f hf
  rw [cs_ig hb] at hk
  split at hk
  · exact h k i hk h8 f hf
  · split at hk
    · injection hk with hk
      subst hk
      cases h8
    · match hc : c[k - 1]?, hk with
      | some j, hk =>
        have hk : some (cs_h b j) = some i := hk
        injection hk with hk
        subst hk
        have h8 : j.1 = 8 := h8
        have e : (cs_h b j).2.1 = j.2.1 := by
          show (if (j.1 = 2 ∨ j.1 = 3) ∧ b ≤ j.2.1 then j.2.1 + 1 else j.2.1) = j.2.1
          rw [if_neg (by omega)]
        rw [e]
        have := h (k - 1) j hc h8 f hf
        have h2 := hcb f hf
        constructor
        · intro _; omega
        · intro _; exact this.mpr (by omega)
      | none, hk => cases hk
theorem tg_a {c : cd} {d : Nat} {op : Nat → Nat} {i : Nat × Nat × Nat} (hi : i.1 = 8 → ∀ f, f ≤ d → (f ≤ i.2.1 ↔ cb op f ≤ c.length)) (h : tg c d op) : tg (c ++ [i]) d op := by
  intro k j hk h8 f hf
  rcases Nat.lt_trichotomy k c.length with h1 | h1 | h1
  · rw [List.getElem?_append_left h1] at hk
    exact h k j hk h8 f hf
  · subst h1
    simp at hk
    subst hk
    exact hi h8 f hf
  · rw [List.getElem?_eq_none (by simp; omega)] at hk; cases hk
theorem tg_s {o : Option Nat} {lz : Bool} {c : cd} {d b : Nat} {op : Nat → Nat} (hb : b ≤ c.length) (hcb : ∀ f, f ≤ d → cb op f ≤ b) (h : tg c d op) : tg (cs_s o lz b c) d op := by
  unfold cs_s
  split
  · exact tg_a (fun h8 => by split at h8 <;> cases h8) h
  · split
    · refine tg_a (fun h8 => by cases h8) ?_
      split
      · exact tg_i hb hcb h
      · exact tg_i hb hcb h
    · split
      · exact tg_i hb hcb h
      · exact tg_i hb hcb h
theorem tg_g {s : sc_T} {c : cd} {a d b : Nat} {op : Nat → Nat} (hb : b ≤ c.length) (hcb : ∀ f, f ≤ d → cb op f ≤ b) (h : tg c d op) : tg (sg_c s a b c) d op := by
  unfold sg_c
  split
  · exact tg_s hb hcb h
  · exact h
section MI
variable {s : sc_T} {a d n : Nat} {c : cd} {sq op gr : Nat → Nat}
theorem cb_le (h1 : ∀ f, f ≤ d → cb op f ≤ sq f) (h2 : ∀ f, f < d → sq f ≤ op (f + 1)) : ∀ (j f : Nat), f + j ≤ d → cb op f ≤ sq (f + j)
  | 0, f, h => h1 f h
  | j + 1, f, h => by
    have q1 := h1 f (by omega)
    have q2 := h2 f (by omega)
    have q3 := cb_le h1 h2 j (f + 1) (by omega)
    have q4 : cb op (f + 1) = op (f + 1) + 1 := by unfold cb; rw [if_neg (by omega)]
    rw [show f + 1 + j = f + (j + 1) from by omega] at q3
    omega
theorem mI_cb (h : mI s a c d n sq op gr) : ∀ f, f ≤ d → cb op f ≤ sq d := fun f hf => by
  obtain ⟨-, -, -, -, -, h1, h2, -⟩ := h
  have := cb_le (fun f hf => (h1 f hf).1) (fun f hf => (h2 f hf).1) (d - f) f (by omega)
  rw [show f + (d - f) = d from by omega] at this
  exact this
theorem mI_bar (h : mI s a c d n sq op gr) (hp : sp s a = some 124) : mI s (a + 1) (cs_i (sq d) (sq d + 1) (c.length + 2) c ++ [(8, d, 0)]) d n (fu sq d (c.length + 2)) op gr := by
  have hcb := mI_cb h
  obtain ⟨h1, h2, h3, h4, h5, h6, h7, h8, h9⟩ := h
  have hb := (h6 d (Nat.le_refl _)).2
  have ha := (sp_lt hp).1
  have hl : (cs_i (sq d) (sq d + 1) (c.length + 2) c ++ [(8, d, 0)]).length = c.length + 2 := by rw [List.length_append, cs_il hb]; rfl
  refine ⟨by omega, h2, ci_bar hb h3, h4, h5, fun f hf => ?_, fun f hf => ?_, h8, ?_⟩
  · rw [hl]
    unfold fu
    have := hcb f hf
    by_cases e : f = d
    · rw [if_pos e]; omega
    · rw [if_neg e]; have := h6 f hf; omega
  · rw [hl]
    unfold fu
    rw [if_neg (by omega)]
    have := h7 f hf
    omega
  · refine tg_a (fun _ f hf => ⟨fun _ => ?_, fun _ => hf⟩) (tg_i hb hcb h9)
    rw [cs_il hb]
    have := hcb f hf
    omega
theorem mI_open (h : mI s a c d n sq op gr) (hp : sp s a = some 40) (hn : n < 3) : mI s (a + 1) (c ++ [(4, 2 * (n + 1), 0)]) (d + 1) (n + 1) (fu sq (d + 1) (c.length + 1)) (fu op (d + 1) c.length) (fu gr (d + 1) (n + 1)) := by
  obtain ⟨h1, h2, h3, h4, h5, h6, h7, h8, h9⟩ := h
  have ha := (sp_lt hp).1
  have hl : (c ++ [(4, 2 * (n + 1), 0)]).length = c.length + 1 := by simp
  have ecb : ∀ f, f ≤ d → cb (fu op (d + 1) c.length) f = cb op f := fun f hf => by
    unfold cb fu
    rw [if_neg (show ¬ f = d + 1 by omega)]
  have ecb1 : cb (fu op (d + 1) c.length) (d + 1) = c.length + 1 := by
    unfold cb fu
    rw [if_neg (by omega), if_pos rfl]
  refine ⟨by omega, h2, ci_le (Nat.le_refl _) (by omega) (ci_a1 h3 (by omega) (fun _ => by omega) (fun h => by omega)), by omega, by omega, fun f hf => ?_, fun f hf => ?_, fun f hf1 hf2 => ?_, ?_⟩
  · rw [hl]
    by_cases e : f = d + 1
    · subst e
      rw [ecb1]
      unfold fu
      rw [if_pos rfl]; omega
    · rw [ecb f (by omega)]
      unfold fu
      rw [if_neg e]
      have := h6 f (by omega); omega
  · rw [hl]
    unfold fu
    rw [if_neg (by omega)]
    by_cases e : f = d
    · subst e
      rw [if_pos rfl]
      have := (h6 f (Nat.le_refl _)).2
      omega
    · rw [if_neg (by omega)]
      have := h7 f (by omega); omega
  · unfold fu
    by_cases e : f = d + 1
    · rw [if_pos e]; omega
    · rw [if_neg e]
      have := h8 f hf1 (by omega); omega
  · intro k i hk h8' f hf
    rcases Nat.lt_trichotomy k c.length with q | q | q
    · rw [List.getElem?_append_left q] at hk
      by_cases e : f = d + 1
      · subst e
        rw [ecb1]
        have hi := (h3.2.2.2 i (List.mem_of_getElem? hk)).2.2.2.2.2 h8'
        constructor
        · intro _; omega
        · intro _; omega
      · rw [ecb f (by omega)]
        exact h9 k i hk h8' f (by omega)
    · subst q
      simp at hk
      subst hk
      cases h8'
    · rw [List.getElem?_eq_none (by simp; omega)] at hk; cases hk
theorem mI_gen {c' : cd} {a' : Nat} (h : mI s a c d n sq op gr) (ha : a' ≤ s.1) (hc : ci c' a' d) (hl : c.length ≤ c'.length) (ht : tg c' d op) : mI s a' c' d n sq op gr := by
  obtain ⟨h1, h2, h3, h4, h5, h6, h7, h8, h9⟩ := h
  exact ⟨ha, h2, hc, h4, h5, fun f hf => by have := h6 f hf; omega, fun f hf => by have := h7 f hf; omega, h8, ht⟩
theorem mI_atom {ch : Nat} {ky : Nat × Nat} (h : mI s a c d n sq op gr) (hp : sp s a = some ch) (hk : atm ch = some ky) : mI s (sg_a s (a + 1)) (sg_c s (a + 1) c.length (c ++ [(ky.1, ky.2, 0)])) d n sq op gr := by
  have hcb := mI_cb h
  have hlen := (h.2.2.2.2.2.1 d (Nat.le_refl _)).2
  have ha := (sp_lt hp).1
  have hkk : (ky.1 = 0 ∨ ky.1 = 1 ∨ ky.1 = 4 ∨ ky.1 = 5 ∨ ky.1 = 6) ∧ (ky.1 = 4 → 2 ≤ ky.2 ∧ ky.2 < 8) ∧ (ky.1 = 0 → ky.2 < 8) ∧ ky.1 ≠ 8 := by
    unfold atm at hk
    split at hk
    · injection hk with hk; subst hk; exact ⟨Or.inl rfl, fun h => (by cases h), fun _ => by show ch - 97 < 8; omega, fun h => (by cases h)⟩
    · split at hk
      · injection hk with hk; subst hk; exact ⟨Or.inr (Or.inl rfl), fun h => (by cases h), fun h => (by cases h), fun h => (by cases h)⟩
      · split at hk
        · injection hk with hk; subst hk; exact ⟨Or.inr (Or.inr (Or.inr (Or.inl rfl))), fun h => (by cases h), fun h => (by cases h), fun h => (by cases h)⟩
        · split at hk
          · injection hk with hk; subst hk; exact ⟨Or.inr (Or.inr (Or.inr (Or.inr rfl))), fun h => (by cases h), fun h => (by cases h), fun h => (by cases h)⟩
          · cases hk
  have hc1 := ci_a1 h.2.2.1 hkk.1 hkk.2.1 hkk.2.2.1
  have hl1 : (c ++ [(ky.1, ky.2, 0)]).length = c.length + 1 := by simp
  obtain ⟨g1, g2⟩ := ci_g (s := s) (a := a + 1) (b := c.length) (by omega) hc1
  refine mI_gen h (sg_a_le (by omega)).2 g1 (by omega) (tg_g (by omega) (fun f hf => by have := hcb f hf; omega) (tg_a (fun h8 => absurd h8 hkk.2.2.2) h.2.2.2.2.2.2.2.2))
theorem mI_close (h : mI s a c d n sq op gr) (hp : sp s a = some 41) (hd : 0 < d) : mI s (sg_a s (a + 1)) (sg_c s (a + 1) (op d) (cs_l d c ++ [(4, 2 * gr d + 1, 0)])) (d - 1) n sq op gr := by
  have ha := (sp_lt hp).1
  obtain ⟨h1, h2, h3, h4, h5, h6, h7, h8, h9⟩ := h
  have hop := h7 (d - 1) (by omega)
  rw [show d - 1 + 1 = d from by omega] at hop
  have hgr := h8 d (by omega) (Nat.le_refl _)
  have hc1 : ci (cs_l d c ++ [(4, 2 * gr d + 1, 0)]) (a + 1) (d - 1) := ci_a1 (ci_l h3 hd) (by omega) (fun _ => by omega) (fun h => by omega)
  have hl1 : (cs_l d c ++ [(4, 2 * gr d + 1, 0)]).length = c.length + 1 := by rw [List.length_append, cs_ll]; rfl
  have hcb : ∀ f, f ≤ d - 1 → cb op f ≤ op d := fun f hf => by
    have := cb_le (d := d) (fun f hf => (h6 f hf).1) (fun f hf => (h7 f hf).1) (d - 1 - f) f (by omega)
    rw [show f + (d - 1 - f) = d - 1 from by omega] at this
    omega
  obtain ⟨g1, g2⟩ := ci_g (s := s) (a := a + 1) (b := op d) (by omega) hc1
  have ht1 : tg (cs_l d c) (d - 1) op := fun k i hk h8' f hf => by
    unfold cs_l at hk
    rw [List.getElem?_map] at hk
    match hc : c[k]?, hk with
    | some j, hk =>
      have hk : some (if j.1 = 8 ∧ j.2.1 = d then (3, c.length, j.2.2) else j) = some i := hk
      injection hk with hk
      split at hk
      · subst hk; cases h8'
      · subst hk
        exact h9 k j hc h8' f (by omega)
    | none, hk => cases hk
  have ht2 : tg (cs_l d c ++ [(4, 2 * gr d + 1, 0)]) (d - 1) op := tg_a (fun h8' => by cases h8') ht1
  have h0 : mI s a c (d - 1) n sq op gr → mI s (sg_a s (a + 1)) (sg_c s (a + 1) (op d) (cs_l d c ++ [(4, 2 * gr d + 1, 0)])) (d - 1) n sq op gr := fun h => mI_gen h (sg_a_le (by omega)).2 g1 (by omega) (tg_g (by omega) hcb ht2)
  refine ⟨(sg_a_le (by omega)).2, h2, g1, h4, by omega, fun f hf => by have := h6 f (by omega); omega, fun f hf => by have := h7 f (by omega); omega, fun f q1 q2 => h8 f q1 (by omega), tg_g (by omega) hcb ht2⟩
end MI
theorem mr_W {s : sc_T} : ∀ (k a : Nat) (c : cd) (d n : Nat) (sq op gr : Nat → Nat) (c' : cd), mI s a c d n sq op gr → mr s k a c d n sq op gr = some c' → pg_W (pg_of c')
  | 0, _, _, _, _, _, _, _, _, _, h => by cases h
  | k + 1, a, c, d, n, sq, op, gr, c', hI, h => by
    unfold mr at h
    match hp : sp s a with
    | none =>
      rw [hp] at h
      dsimp only at h
      split at h
      · next hd =>
        injection h with h
        subst h hd
        obtain ⟨h1, h2, h3, -⟩ := hI
        exact pg_ofW h3 (by omega)
      · cases h
    | some ch =>
      rw [hp] at h
      dsimp only at h
      split at h
      · next h1 => subst h1; exact mr_W k _ _ _ _ _ _ _ c' (mI_bar hI hp) h
      · split at h
        · next h1 =>
          obtain ⟨h1, h2⟩ := h1
          subst h1
          exact mr_W k _ _ _ _ _ _ _ c' (mI_open hI hp h2) h
        · split at h
          · next h1 =>
            obtain ⟨h1, h2⟩ := h1
            subst h1
            exact mr_W k _ _ _ _ _ _ _ c' (mI_close hI hp h2) h
          · match ha : atm ch with
            | some ky =>
              rw [ha] at h
              exact mr_W k _ _ _ _ _ _ _ c' (mI_atom hI hp ha) h
            | none =>
              rw [ha] at h
              cases h
