/-! THE CLASS'S WRITER -/
def ly_W (sh : Nat → Option (Nat × Nat)) (R : Nat → Nat → Option Nat) (W g pat : Nat) : Prop := sh W = some (1, 0) ∧ R W 0 = some pat ∧ R W 4 = some g ∧ sh pat = some (1002, 24) ∧ ly_P sh R g ∧ (W < g ∨ g + 3 < W) ∧ (pat < g ∨ g + 3 < pat) ∧ W ≠ pat
def pw_R (I : Nat → Nat → Int32) (W pat : Nat) (s : sc_T) : Prop := I W 1 = nI s.1 ∧ s.1 ≤ 24 ∧ ∀ k, k < s.1 → I pat k = nI (s.2 k) ∧ s.2 k < 65536
def wr_R (I : Nat → Nat → Int32) (W g pat : Nat) (s : sc_T) (a n : Nat) (c : cd) : Prop := pw_R I W pat s ∧ I W 2 = nI a ∧ I W 3 = nI n ∧ pc_R I g c
def wk_K (W g : Nat) (I I' : Nat → Nat → Int32) : Prop := ∀ a k, (a ≠ W ∨ (k ≠ 2 ∧ k ≠ 3)) → (a < g ∨ g + 3 < a) → I' a k = I a k
theorem wk_refl {W g : Nat} {I : Nat → Nat → Int32} : wk_K W g I I := fun _ _ _ _ => rfl
theorem wk_trans {W g : Nat} {I I' I2 : Nat → Nat → Int32} (h : wk_K W g I I') (k : wk_K W g I' I2) : wk_K W g I I2 := fun a j h1 h2 => (k a j h1 h2).trans (h a j h1 h2)
def wpk : Option Nat → Int32
  | some ch => nI ch
  | none => -1
abbrev ST : Type := Nat × cd × Nat × (Nat → Nat) × (Nat → Nat) × (Nat → Nat)
def mrS (s : sc_T) (k d : Nat) (S : ST) : Option cd := mr s k S.1 S.2.1 d S.2.2.1 S.2.2.2.1 S.2.2.2.2.1 S.2.2.2.2.2
def mIS (s : sc_T) (d : Nat) (S : ST) : Prop := mI s S.1 S.2.1 d S.2.2.1 S.2.2.2.1 S.2.2.2.2.1 S.2.2.2.2.2
/-- reading goes from S on to S' -/
def goS (s : sc_T) (d : Nat) (S S' : ST) : Prop := ∀ k, s.1 + 1 ≤ S.1 + k → ∃ k', s.1 + 1 ≤ S'.1 + k' ∧ mrS s k d S = mrS s k' d S'
def agS (d : Nat) (S S' : ST) : Prop := (∀ f, f < d → S'.2.2.2.1 f = S.2.2.2.1 f) ∧ ∀ f, f ≤ d → S'.2.2.2.2.1 f = S.2.2.2.2.1 f ∧ S'.2.2.2.2.2 f = S.2.2.2.2.2 f
def noS (s : sc_T) (d : Nat) (S : ST) : Prop := ∀ k, s.1 + 1 ≤ S.1 + k → mrS s k d S = none
theorem goS_refl {s : sc_T} {d : Nat} {S : ST} : goS s d S S := fun k hk => ⟨k, hk, rfl⟩
theorem goS_trans {s : sc_T} {d : Nat} {S S' S2 : ST} (h : goS s d S S') (k : goS s d S' S2) : goS s d S S2 := fun n hn => by
  obtain ⟨k', q1, q2⟩ := h n hn
  obtain ⟨k2, q3, q4⟩ := k k' q1
  exact ⟨k2, q3, q2.trans q4⟩
theorem goS_no {s : sc_T} {d : Nat} {S S' : ST} (h : goS s d S S') (k : noS s d S') : noS s d S := fun n hn => by
  obtain ⟨k', q1, q2⟩ := h n hn
  rw [q2]; exact k k' q1
theorem agS_refl {d : Nat} {S : ST} : agS d S S := ⟨fun _ _ => rfl, fun _ _ => ⟨rfl, rfl⟩⟩
theorem agS_trans {d : Nat} {S S' S2 : ST} (h : agS d S S') (k : agS d S' S2) : agS d S S2 := ⟨fun f hf => (k.1 f hf).trans (h.1 f hf), fun f hf => ⟨(k.2 f hf).1.trans (h.2 f hf).1, (k.2 f hf).2.trans (h.2 f hf).2⟩⟩
section WR
variable {sh : Nat → Option (Nat × Nat)} {I : Nat → Nat → Int32} {J : Nat → Nat → Int64} {R : Nat → Nat → Option Nat} {n g W pat : Nat} {c : cd} {s : sc_T}
theorem pw_K {I' : Nat → Nat → Int32} (hl : ly_W sh R W g pat) (h : wk_K W g I I') (hp : pw_R I W pat s) : pw_R I' W pat s := by
  obtain ⟨-, -, -, -, -, d1, d2, d3⟩ := hl
  exact ⟨(h _ _ (by omega) (by omega)).trans hp.1, hp.2.1, fun k hk => ⟨(h _ _ (by omega) (by omega)).trans (hp.2.2 k hk).1, (hp.2.2 k hk).2⟩⟩
theorem e_Wr_peek {a : Nat} (hl : ly_W sh R W g pat) (hp : pw_R I W pat s) (h2 : I W 2 = nI a) (ha : a ≤ 30) : f_Wr_peek W (sh, I, J, R, n) = some (wpk (sp s a), (sh, I, J, R, n)) := by
  have h24 := hp.2.1
  unfold f_Wr_peek sp
  simp only [ev_ob hl.1, ev_b, ev_I, h2, hp.1]
  rw [if_neg (nI_pos (by omega))]
  by_cases h : a < s.1
  · rw [if_neg (by rw [nI_leI (by omega) (by omega)]; omega), if_pos h]
    simp only [ev_R, hl.2.1, ev_ar2 hl.2.2.2.1, ev_b]
    rw [if_neg (by rw [nI_leI (by omega) (by omega)]; omega)]
    simp only [ev_ix (show a < 24 by omega) (show 24 < 2 ^ 31 by omega), ev_b, (hp.2.2 a h).1]
    rfl
  · rw [if_pos (by rw [nI_leI (by omega) (by omega)]; omega), if_neg h]
    rfl
theorem wpk_is {a m : Nat} (hp : pw_R I W pat s) (hm : m < 65536) : (wpk (sp s a) = nI m) ↔ sp s a = some m := by
  unfold sp
  by_cases h : a < s.1
  · rw [if_pos h]
    have := (hp.2.2 a h).2
    show nI (s.2 a) = nI m ↔ some (s.2 a) = some m
    rw [nI_eq (by omega) (by omega)]
    exact ⟨fun e => by rw [e], fun e => by injection e⟩
  · rw [if_neg h]
    show (-1 : Int32) = nI m ↔ none = some m
    exact ⟨fun e => by have := ev_n1 (a := m) (by omega); rw [← e] at this; exact (this.mp rfl).elim, fun e => by cases e⟩
theorem wpk_end {a : Nat} (hp : pw_R I W pat s) : (wpk (sp s a) = -1) ↔ sp s a = none := by
  unfold sp
  by_cases h : a < s.1
  · rw [if_pos h]
    have := (hp.2.2 a h).2
    show nI (s.2 a) = -1 ↔ some (s.2 a) = none
    rw [ev_n1 (by omega)]
    exact ⟨fun e => e.elim, fun e => by cases e⟩
  · rw [if_neg h]
    exact ⟨fun _ => rfl, fun _ => rfl⟩
theorem e_Wr_sign {ch b d : Nat} {lz : Bool} (hl : ly_W sh R W g pat) (hch : ch = 63 ∨ ch = 42 ∨ ch = 43) (hb : b ≤ c.length) (hlen : c.length ≤ 46) (hok : ∀ i, i ∈ c → cok c.length d i) (hc : pc_R I g c) :
    ∃ I', f_Wr_writeSign W (nI ch) (nI b) (bI lz) (sh, I, J, R, n) = some (sh, I', J, R, n) ∧ pc_R I' g (cs_s (some ch) lz b c) ∧ (∀ a k, (a < g ∨ g + 3 < a) → I' a k = I a k) := by
  obtain ⟨l0, -, r4, -, lP, -⟩ := hl
  have hz0 : ∀ (A B : Int32), ((if bI lz = 0 then some A else some B) : Option Int32) = some (if lz then B else A) := fun A B => by cases lz <;> rfl
  have hnn : ∀ (A B : Nat), (if lz then nI B else nI A) = nI (if lz then B else A) := fun A B => by cases lz <;> rfl
  unfold f_Wr_writeSign
  simp only [ev_b, nI_1, ev_ob l0, ev_R, r4, ev_ob lP.1, hz0]
  unfold cs_s
  by_cases h43 : ch = 43
  · subst h43
    have e43 : nI 43 = 43 := rfl
    have n42 : ¬ nI 43 = 42 := by decide
    have es : f_Pr_size g (sh, I, J, R, n) = some (nI c.length, (sh, I, J, R, n)) := by
      unfold f_Pr_size
      simp only [ev_ob lP.1, ev_b, ev_I, hc.1]
    rw [if_pos rfl]
    simp only [if_pos e43, es, ev_b, ev_ob l0, ev_ob lP.1, ev_R, r4]
    have hitem : (if lz then (2, c.length + 1, b) else (2, b, c.length + 1) : Nat × Nat × Nat) = (2, (if lz then c.length + 1 else b), (if lz then b else c.length + 1)) := by cases lz <;> rfl
    rw [hitem]
    obtain ⟨I1, e1, w1, K1⟩ := e_Pr_addh (J := J) (n := n) (h := c.length) (k := 2) (x := 0) (i := (2, (if lz then c.length + 1 else b), (if lz then b else c.length + 1))) lP (by omega) rfl (fun h => absurd rfl h) (pc_ph hc)
    have es1 : f_Pr_size g (sh, I1, J, R, n) = some (nI (c.length + 1), (sh, I1, J, R, n)) := by
      unfold f_Pr_size
      simp only [ev_ob lP.1, ev_b, ev_I, w1.1]
      rw [List.length_append]; rfl
    obtain ⟨I2, e2, w2, K2⟩ := e_Pr_aim (J := J) (n := n) (h := c.length) (x := if lz then c.length + 1 else b) (y := if lz then b else c.length + 1) lP (by simp; omega) (by simp) w1
    simp only [e1, ev_b, if_neg n42, ev_ob l0, ev_ob lP.1, ev_R, r4, es1, hnn]
    rw [e2, ev_b]
    exact ⟨I2, rfl, w2, fun a k q => (K2 a k q).trans (K1 a k q)⟩
  · have n43 : ¬ nI ch = 43 := ch_ne (m := 43) (by omega) (by omega) h43
    rw [if_neg (show ¬ some ch = some 43 from fun e => h43 (by injection e))]
    simp only [if_neg n43]
    by_cases h42 : ch = 42
    · subst h42
      have e42 : nI 42 = 42 := rfl
      rw [if_pos rfl]
      have hitem : (if lz then cs_i b (c.length + 2) (b + 1) c else cs_i b (b + 1) (c.length + 2) c) = cs_i b (if lz then c.length + 2 else b + 1) (if lz then b + 1 else c.length + 2) c := by cases lz <;> rfl
      rw [hitem]
      obtain ⟨I1, e1, w1, K1⟩ := e_Pr_insert (J := J) (n := n) (x := if lz then c.length + 2 else b + 1) (y := if lz then b + 1 else c.length + 2) lP hb (by omega) hok hc
      obtain ⟨I2, e2, w2, K2⟩ := e_Pr_addh (J := J) (n := n) (I := I1) (h := b) (k := 3) (x := nI b) (i := (3, b, 0)) lP (by rw [cs_il hb]; omega) rfl (fun _ => ⟨rfl, rfl⟩) w1
      have hl2 : (cs_i b (if lz then c.length + 2 else b + 1) (if lz then b + 1 else c.length + 2) c ++ [(3, b, 0)]).length = c.length + 2 := by rw [List.length_append, cs_il hb]; rfl
      have es1 : f_Pr_size g (sh, I2, J, R, n) = some (nI (c.length + 2), (sh, I2, J, R, n)) := by
        unfold f_Pr_size
        simp only [ev_ob lP.1, ev_b, ev_I, w2.1]
        rw [hl2]
      obtain ⟨I3, e3, w3, K3⟩ := e_Pr_aim (J := J) (n := n) (h := b) (x := if lz then c.length + 2 else b + 1) (y := if lz then b + 1 else c.length + 2) lP (by rw [hl2]; omega) (by rw [List.getElem?_append_left (by rw [cs_il hb]; omega), cs_ig hb, if_neg (Nat.lt_irrefl _), if_pos rfl]) w2
      simp only [e1, ev_b, if_pos e42, ev_ob l0, ev_ob lP.1, ev_R, r4, e2, es1, hnn]
      rw [e3, ev_b]
      exact ⟨I3, rfl, w3, fun a k q => (K3 a k q).trans ((K2 a k q).trans (K1 a k q))⟩
    · have n42 : ¬ nI ch = 42 := ch_ne (m := 42) (by omega) (by omega) h42
      rw [if_neg (show ¬ some ch = some 42 from fun e => h42 (by injection e))]
      have hitem : (if lz then cs_i b (c.length + 1) (b + 1) c else cs_i b (b + 1) (c.length + 1) c) = cs_i b (if lz then c.length + 1 else b + 1) (if lz then b + 1 else c.length + 1) c := by cases lz <;> rfl
      rw [hitem]
      obtain ⟨I1, e1, w1, K1⟩ := e_Pr_insert (J := J) (n := n) (x := if lz then c.length + 1 else b + 1) (y := if lz then b + 1 else c.length + 1) lP hb (by omega) hok hc
      have es1 : f_Pr_size g (sh, I1, J, R, n) = some (nI (c.length + 1), (sh, I1, J, R, n)) := by
        unfold f_Pr_size
        simp only [ev_ob lP.1, ev_b, ev_I, w1.1]
        rw [cs_il hb]
      obtain ⟨I3, e3, w3, K3⟩ := e_Pr_aim (J := J) (n := n) (h := b) (x := if lz then c.length + 1 else b + 1) (y := if lz then b + 1 else c.length + 1) lP (by rw [cs_il hb]; omega) (by rw [cs_ig hb, if_neg (Nat.lt_irrefl _), if_pos rfl]) w1
      simp only [e1, ev_b, if_neg n42, ev_ob l0, ev_ob lP.1, ev_R, r4, es1, hnn]
      rw [e3, ev_b]
      exact ⟨I3, rfl, w3, fun a k q => (K3 a k q).trans (K1 a k q)⟩
/-- what writeChoice is asked to do -/
def RC (sh : Nat → Option (Nat × Nat)) (J : Nat → Nat → Int64) (R : Nat → Nat → Option Nat) (n W g pat : Nat) (s : sc_T) (m : Nat) (rc : Nat → hv_S → Option (Int32 × hv_S)) : Prop :=
  ∀ (d : Nat) (S : ST) (I : Nat → Nat → Int32), mIS s d S → S.2.2.2.1 d = S.2.1.length → cb S.2.2.2.2.1 d = S.2.1.length → 4 ≤ m + S.2.2.1 → wr_R I W g pat s S.1 S.2.2.1 S.2.1 →
    ∃ I' r S', rc W (sh, I, J, R, n) = some (bI r, (sh, I', J, R, n)) ∧ wk_K W g I I' ∧ (r = true → wr_R I' W g pat s S'.1 S'.2.2.1 (cs_l d S'.2.1) ∧ goS s d S S' ∧ mIS s d S' ∧ agS d S S' ∧ S.1 ≤ S'.1 ∧ S.2.2.1 ≤ S'.2.2.1 ∧ (sp s S'.1 = none ∨ sp s S'.1 = some 41)) ∧ (r = false → noS s d S)
theorem mrS_c {k d a : Nat} {nn : Nat} {sq op gr : Nat → Nat} {ch : Nat} (hsp : sp s a = some ch) : mrS s (k + 1) d (a, c, nn, sq, op, gr) = if ch = 124 then mrS s k d (a + 1, cs_i (sq d) (sq d + 1) (c.length + 2) c ++ [(8, d, 0)], nn, fu sq d (c.length + 2), op, gr) else if ch = 40 ∧ nn < 3 then mrS s k (d + 1) (a + 1, c ++ [(4, 2 * (nn + 1), 0)], nn + 1, fu sq (d + 1) (c.length + 1), fu op (d + 1) c.length, fu gr (d + 1) (nn + 1)) else if ch = 41 ∧ 0 < d then mrS s k (d - 1) (sg_a s (a + 1), sg_c s (a + 1) (op d) (cs_l d c ++ [(4, 2 * gr d + 1, 0)]), nn, sq, op, gr) else match atm ch with | some ky => mrS s k d (sg_a s (a + 1), sg_c s (a + 1) c.length (c ++ [(ky.1, ky.2, 0)]), nn, sq, op, gr) | none => none := by
  unfold mrS
  conv => lhs; unfold mr
  dsimp only
  rw [hsp]
  rfl
end WR
