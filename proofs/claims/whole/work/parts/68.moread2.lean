/-! THE REFERENCE READS A PATTERN: signs, landings -/
def pkI : Option Nat → Int32
  | some ch => nI ch
  | none => 0
section R3
variable {sh : Nat → Option (Nat × Nat)} {I : Nat → Nat → Int32} {J : Nat → Nat → Int64} {R : Nat → Nat → Option Nat} {n g : Nat} {c : cd} {s : sc_T}
def em_K (g : Nat) (I I' : Nat → Nat → Int32) : Prop := ∀ a k, (a ≠ g ∨ k ≠ 10) → (a < g + 6 ∨ g + 8 < a) → I' a k = I a k
theorem em_trans {I' I2 : Nat → Nat → Int32} (h : em_K g I I') (k : em_K g I' I2) : em_K g I I2 := fun a j h1 h2 => (k a j h1 h2).trans (h a j h1 h2)
theorem em_rd {I' : Nat → Nat → Int32} (h : em_K g I I') : rd_K g I I' := fun a k h1 h2 => h a k (by omega) (by omega)
/-- the entry at b is aimed anew -/
theorem nd_aim {b x y x' y' : Nat} {I' : Nat → Nat → Int32} (hb : b ≤ c.length) (h : nd_R I g (cs_i b x y c)) (hx : I' (g + 7) b = nI x') (hy : I' (g + 8) b = nI y') (h6 : I' (g + 6) b = I (g + 6) b) (h10 : I' g 10 = I g 10) (hK : ∀ a k, g + 6 ≤ a → a ≤ g + 8 → k ≠ b → I' a k = I a k) : nd_R I' g (cs_i b x' y' c) := by
  refine ⟨by rw [h10, h.1, cs_il hb, cs_il hb], fun k i hk => ?_⟩
  by_cases e : k = b
  · subst e
    rw [cs_ig hb, if_neg (Nat.lt_irrefl _), if_pos rfl] at hk
    injection hk with hk
    subst hk
    have := h.2 k (2, x, y) (by rw [cs_ig hb, if_neg (Nat.lt_irrefl _), if_pos rfl])
    exact ⟨h6.trans this.1, hx, hy⟩
  · refine en_mono (fun a g1 g2 => hK _ _ g1 g2 e) (h.2 k i ?_)
    rw [cs_ig hb] at hk ⊢
    by_cases h1 : k < b
    · rw [if_pos h1] at hk ⊢; exact hk
    · rw [if_neg h1, if_neg e] at hk ⊢; exact hk
/-- the same with one instruction behind -/
theorem nd_aim1 {b x y x' y' : Nat} {e : Nat × Nat × Nat} {I' : Nat → Nat → Int32} (hb : b ≤ c.length) (h : nd_R I g (cs_i b x y c ++ [e])) (hx : I' (g + 7) b = nI x') (hy : I' (g + 8) b = nI y') (h6 : I' (g + 6) b = I (g + 6) b) (h10 : I' g 10 = I g 10) (hK : ∀ a k, g + 6 ≤ a → a ≤ g + 8 → k ≠ b → I' a k = I a k) : nd_R I' g (cs_i b x' y' c ++ [e]) := by
  have hl : ∀ x y, (cs_i b x y c).length = c.length + 1 := fun x y => cs_il hb
  refine ⟨by rw [h10, h.1, List.length_append, List.length_append, hl, hl], fun k i hk => ?_⟩
  by_cases q : k < c.length + 1
  · rw [List.getElem?_append_left (by rw [hl]; exact q)] at hk
    by_cases e : k = b
    · subst e
      rw [cs_ig hb, if_neg (Nat.lt_irrefl _), if_pos rfl] at hk
      injection hk with hk
      subst hk
      have := h.2 k (2, x, y) (by rw [List.getElem?_append_left (by rw [hl]; exact q), cs_ig hb, if_neg (Nat.lt_irrefl _), if_pos rfl])
      exact ⟨h6.trans this.1, hx, hy⟩
    · refine en_mono (fun a g1 g2 => hK _ _ g1 g2 e) (h.2 k i ?_)
      rw [List.getElem?_append_left (by rw [hl]; exact q)]
      rw [cs_ig hb] at hk ⊢
      by_cases h1 : k < b
      · rw [if_pos h1] at hk ⊢; exact hk
      · rw [if_neg h1, if_neg e] at hk ⊢; exact hk
  · rw [List.getElem?_append_right (by rw [hl]; omega), hl] at hk
    refine en_mono (fun a g1 g2 => hK _ _ g1 g2 (by omega)) (h.2 k i ?_)
    rw [List.getElem?_append_right (by rw [hl]; omega), hl]
    exact hk
theorem e_Mo_push {b d : Nat} (hl : ly_M sh R g) (hb : b ≤ c.length) (hlen : c.length < 49) (hd : d < 4) (hok : ∀ i, i ∈ c → cok c.length d i) (h : nd_R I g c) :
    ∃ I', f_Mo_push g (nI b) (sh, I, J, R, n) = some (sh, I', J, R, n) ∧ nd_R I' g (cs_i b (b + 1) 0 c) ∧ em_K g I I' := by
  obtain ⟨I1, e1, r1, r2, K1⟩ := e_Mo_pushloop (J := J) (n := n) hl hb hlen hd hok (c.length - b) 100000 I (by omega) (by omega) (fun k i hk hi => h.2 k i hi) (fun k i hk hi => by
    have := gl hi
    omega)
  rw [show b + (c.length - b) = c.length from by omega] at e1
  have x1 := ev_ix (N := 64) (k := b) (by omega) (by omega)
  have h10 : I1 g 10 = nI c.length := (K1 _ _ (by omega)).trans h.1
  unfold f_Mo_push
  simp only [ev_ob (ms_o hl), ev_b, ev_I, h.1, e1, h10, ev_sI, nI_1, ev_R, mr_11 hl, mr_12 hl, mr_13 hl, ev_ar0 (ms_6 hl), ev_ar0 (ms_7 hl), ev_ar0 (ms_8 hl), x1]
  have K2 : ∀ a k, (a ≠ g ∨ k ≠ 10) → k ≠ b → (hv_u (hv_u (hv_u (hv_u I1 g 10 (nI (c.length + 1))) (g + 6) b 2) (g + 7) b (nI (b + 1))) (g + 8) b 0) a k = I1 a k := fun a k q1 q2 => by
    rw [ev_uk q2, ev_uk q2, ev_uk q2]
    rcases q1 with q | q
    · rw [ev_ua q]
    · rw [ev_uk q]
  have K3 : ∀ a k, (a ≠ g ∨ k ≠ 10) → (a < g + 6 ∨ g + 8 < a) → (hv_u (hv_u (hv_u (hv_u I1 g 10 (nI (c.length + 1))) (g + 6) b 2) (g + 7) b (nI (b + 1))) (g + 8) b 0) a k = I1 a k := fun a k q1 q2 => by
    rw [ev_ua (by omega), ev_ua (by omega), ev_ua (by omega)]
    rcases q1 with q | q
    · rw [ev_ua q]
    · rw [ev_uk q]
  refine ⟨_, rfl, ⟨?_, fun k i hk => ?_⟩, fun a k q1 q2 => (K3 a k q1 q2).trans (K1 a k q2)⟩
  · rw [ev_ua (by omega), ev_ua (by omega), ev_ua (by omega), ev_us, cs_il hb]
  · rw [cs_ig hb] at hk
    by_cases h1 : k < b
    · rw [if_pos h1] at hk
      exact en_mono (fun a g1 g2 => K2 _ _ (by omega) (by omega)) (r1 k i h1 hk)
    · rw [if_neg h1] at hk
      by_cases e : k = b
      · rw [if_pos e] at hk
        subst e
        injection hk with hk
        subst hk
        refine ⟨?_, ?_, ?_⟩
        · rw [ev_ua (by omega), ev_ua (by omega), ev_us]; rfl
        · rw [ev_ua (by omega), ev_us]; rfl
        · rw [ev_us]; rfl
      · rw [if_neg e] at hk
        match hc : c[k - 1]?, hk with
        | some j, hk =>
          have hk : some (cs_h b j) = some i := hk
          injection hk with hk
          subst hk
          exact en_mono (fun a g1 g2 => K2 _ _ (by omega) e) (r2 k j (by omega) hc)
        | none, hk => cases hk
theorem e_Mo_lndloop {d dd : Nat} (hl : ly_M sh R g) (hlen : c.length < 50) (hd : d < 4) (hdd : dd < 4) (hok : ∀ i, i ∈ c → cok c.length dd i) :
    ∀ (j N k : Nat) (I : Nat → Nat → Int32), j < N → k + j = c.length → I g 10 = nI c.length → (∀ (m : Nat) (i : Nat × Nat × Nat), m < k → (cs_l d c)[m]? = some i → en_R I g m i) → (∀ (m : Nat) (i : Nat × Nat × Nat), k ≤ m → c[m]? = some i → en_R I g m i) →
    ∃ I', L_Mo_land_2 N (some g) (nI d) (nI k) (sh, I, J, R, n) = some (sh, I', J, R, n) ∧ nd_R I' g (cs_l d c) ∧ (∀ a k, a ≠ g + 7 → I' a k = I a k)
  | j, 0, _, _, h, _, _, _, _ => by omega
  | 0, N + 1, k, I, hN, hk, h10, h1, h2 => by
    rw [L_Mo_land_2]
    simp only [ev_ob (ms_o hl), ev_b, ev_I, h10]
    rw [if_pos (by rw [nI_leI (by omega) (by omega)]; omega)]
    exact ⟨I, rfl, ⟨by rw [cs_ll]; exact h10, fun m i hi => h1 m i (by have := gl hi; rw [cs_ll] at this; omega) hi⟩, fun _ _ _ => rfl⟩
  | j + 1, N + 1, k, I, hN, hk, h10, h1, h2 => by
    have hi : c[k]? = some c[k] := List.getElem?_eq_getElem (by omega)
    generalize c[k]'(by omega) = i at hi
    obtain ⟨q1, q2, q3⟩ := h2 k i (Nat.le_refl _) hi
    obtain ⟨z1, z2, z3, z4, z5, z6⟩ := hok i (List.mem_of_getElem? hi)
    have x1 := ev_ix (N := 64) (k := k) (by omega) (by omega)
    have hlk : (cs_l d c)[k]? = some (if i.1 = 8 ∧ i.2.1 = d then (3, c.length, i.2.2) else i) := by
      unfold cs_l
      rw [List.getElem?_map, hi]; rfl
    rw [L_Mo_land_2]
    simp only [ev_ob (ms_o hl), ev_b, ev_I, h10]
    rw [if_neg (by rw [nI_leI (by omega) (by omega)]; omega)]
    simp only [ev_R, mr_11 hl, mr_12 hl, ev_ar0 (ms_6 hl), ev_ar0 (ms_7 hl), ev_b, x1, q1, q2, ev_sI]
    have hgo : ∃ I1, ((if nI (ck i.1) = 3 then if rx i = -1 - nI d then some (sh, hv_u I (g + 7) k (nI c.length), J, R, n) else some (sh, I, J, R, n) else some (sh, I, J, R, n)) : Option hv_S) = some (sh, I1, J, R, n) ∧ en_R I1 g k (if i.1 = 8 ∧ i.2.1 = d then (3, c.length, i.2.2) else i) ∧ (∀ a m, (a ≠ g + 7 ∨ m ≠ k) → I1 a m = I a m) := by
      by_cases h8 : i.1 = 8
      · have hc3 : ck i.1 = 3 := by unfold ck; rw [if_pos h8]
        have hrx : rx i = -1 - nI i.2.1 := by unfold rx; rw [if_pos h8]
        have ht := z6 h8
        rw [hc3, if_pos (show nI 3 = 3 from rfl), hrx]
        by_cases hd' : i.2.1 = d
        · rw [if_pos (by rw [hd']), if_pos ⟨h8, hd'⟩]
          refine ⟨_, rfl, ⟨?_, ?_, ?_⟩, fun a m h => ?_⟩
          · rw [ev_ua (by omega), q1, hc3]; rfl
          · rw [ev_us]; rfl
          · rw [ev_ua (by omega), q3]
          · rcases h with h | h
            · rw [ev_ua h]
            · rw [ev_uk h]
        · rw [if_neg (fun e => hd' ((rx_inj d hd i.2.1 (by omega)).mp e)), if_neg (fun e => hd' e.2)]
          exact ⟨I, rfl, ⟨q1, q2, q3⟩, fun _ _ _ => rfl⟩
      · have hck' : ck i.1 = i.1 := by unfold ck; rw [if_neg h8]
        have hrx : rx i = nI i.2.1 := by unfold rx; rw [if_neg h8]
        rw [if_neg (show ¬ (i.1 = 8 ∧ i.2.1 = d) from fun e => h8 e.1), hck', hrx]
        refine ⟨I, ?_, ⟨q1, q2, q3⟩, fun _ _ _ => rfl⟩
        by_cases h3 : i.1 = 3
        · rw [if_pos (by rw [h3]; rfl), if_neg (rx_ne d hd i.2.1 (by have := z3 h3; omega))]
        · rw [if_neg (by rw [li_3, nI_eq (by omega) (by omega)]; exact h3)]
    obtain ⟨I1, e1, r1, K1⟩ := hgo
    rw [e1, ev_b, nI_1]
    obtain ⟨I2, e2, r2, K2⟩ := e_Mo_lndloop hl hlen hd hdd hok j N (k + 1) I1 (by omega) (by omega) ((K1 _ _ (by omega)).trans h10) (fun m i' hm hi' => by
      by_cases e : m = k
      · subst e
        rw [hlk] at hi'
        injection hi' with hi'
        subst hi'
        exact r1
      · exact en_mono (fun a g1 g2 => K1 _ _ (by omega)) (h1 m i' (by omega) hi')) (fun m i' hm hi' => en_mono (fun a g1 g2 => K1 _ _ (by omega)) (h2 m i' (by omega) hi'))
    exact ⟨I2, e2, r2, fun a k h => (K2 a k h).trans (K1 a k (Or.inl h))⟩
theorem e_Mo_land {d dd : Nat} (hl : ly_M sh R g) (hlen : c.length < 50) (hd : d < 4) (hdd : dd < 4) (hok : ∀ i, i ∈ c → cok c.length dd i) (h : nd_R I g c) :
    ∃ I', f_Mo_land g (nI d) (sh, I, J, R, n) = some (sh, I', J, R, n) ∧ nd_R I' g (cs_l d c) ∧ em_K g I I' := by
  obtain ⟨I1, e1, r1, K1⟩ := e_Mo_lndloop (J := J) (n := n) hl hlen hd hdd hok c.length 100000 0 I (by omega) (by omega) h.1 (fun m i hm => by omega) (fun m i _ hi => h.2 m i hi)
  have e1' : L_Mo_land_2 100000 (some g) (nI d) 0 (sh, I, J, R, n) = some (sh, I1, J, R, n) := e1
  unfold f_Mo_land
  rw [e1', ev_b]
  exact ⟨I1, rfl, r1, fun a k q1 q2 => K1 a k (by omega)⟩
theorem e_Mo_peek {a : Nat} (hl : ly_M sh R g) (hp : pt_R I g s) (ha : I g 14 = nI a) (ha' : a ≤ 30) : f_Mo_peek g (sh, I, J, R, n) = some (pkI (sp s a), (sh, I, J, R, n)) := by
  have h24 := hp.2.1
  unfold f_Mo_peek sp
  simp only [ev_ob (ms_o hl), ev_b, ev_I, hp.1, ha]
  by_cases h : a < s.1
  · rw [if_neg (by rw [nI_leI (by omega) (by omega)]; omega), if_pos h]
    simp only [ev_R, mr_3 hl, ev_ar0 (ms_1 hl), ev_b, ev_ix (show a < 24 by omega) (show 24 < 2 ^ 31 by omega), (hp.2.2 a h).1]
    rfl
  · rw [if_pos (by rw [nI_leI (by omega) (by omega)]; omega), if_neg h]
    rfl
theorem pk_is {a m : Nat} (hp : pt_R I g s) (hm : 0 < m) (hm2 : m < 65536) : (pkI (sp s a) = nI m) ↔ sp s a = some m := by
  unfold sp
  by_cases h : a < s.1
  · rw [if_pos h]
    have := (hp.2.2 a h).2
    show nI (s.2 a) = nI m ↔ some (s.2 a) = some m
    rw [nI_eq (by omega) (by omega)]
    exact ⟨fun e => by rw [e], fun e => by injection e⟩
  · rw [if_neg h]
    show (0 : Int32) = nI m ↔ none = some m
    rw [li_0, nI_eq (by omega) (by omega)]
    exact ⟨fun e => by omega, fun e => by cases e⟩
/-- the two aims change places, if one more ? stands there -/
theorem e_Mo_lazy {a w x y : Nat} {F : Nat → Nat → cd} (hl : ly_M sh R g) (hp : pt_R I g s) (ha : I g 14 = nI a) (ha' : a ≤ 30) (hw : w < 64) (hF : ∀ I' : Nat → Nat → Int32, I' (g + 7) w = nI y → I' (g + 8) w = nI x → (∀ b k, (b ≠ g + 7 ∨ k ≠ w) → (b ≠ g + 8 ∨ k ≠ w) → (b ≠ g ∨ k ≠ 14) → I' b k = I b k) → nd_R I' g (F y x)) (hx : I (g + 7) w = nI x) (hy : I (g + 8) w = nI y) (h : nd_R I g (F x y)) :
    ∃ I', ((f_Mo_peek g (sh, I, J, R, n)).bind fun p16 => if p16.1 = 63 then (x_ob p16.2 11 (some g)).bind fun a17 => (some (hv_setI p16.2 a17 14 (hv_I p16.2 a17 14 + 1))).bind fun s18 => (x_ar s18 0 (hv_R s18 a17 12)).bind fun q19 => (x_ix q19.2 (nI w)).bind fun k20 => (some (hv_I s18 q19.1 k20)).bind fun y21 => (x_ar s18 0 (hv_R s18 a17 13)).bind fun q22 => (x_ix q22.2 (nI w)).bind fun k23 => (x_ix q19.2 (nI w)).bind fun k24 => (some (hv_setI s18 q19.1 k24 (hv_I s18 q22.1 k23))).bind fun s25 => (x_ar s25 0 (hv_R s25 a17 13)).bind fun q26 => (x_ix q26.2 (nI w)).bind fun k27 => (some (hv_setI s25 q26.1 k27 y21)).bind fun s28 => some s28 else some p16.2) = some (sh, I', J, R, n) ∧ I' g 14 = nI (if sp s a = some 63 then a + 1 else a) ∧ nd_R I' g (if sp s a = some 63 then F y x else F x y) ∧ (∀ b k, (b ≠ g ∨ k ≠ 14) → (b < g + 7 ∨ g + 8 < b) → I' b k = I b k) := by
  rw [e_Mo_peek hl hp ha ha', ev_b]
  have h63 := pk_is (a := a) (m := 63) hp (by omega) (by omega)
  have h63' : (pkI (sp s a) = (63 : Int32)) ↔ sp s a = some 63 := h63
  have xw := ev_ix (N := 64) (k := w) hw (by omega)
  by_cases hz : sp s a = some 63
  · rw [if_pos (h63'.mpr hz), if_pos hz, if_pos hz]
    simp only [ev_ob (ms_o hl), ev_b, ev_I, ha, nI_1, ev_sI, ev_R, mr_12 hl, mr_13 hl, ev_ar0 (ms_7 hl), ev_ar0 (ms_8 hl), xw, ev_ua (show g + 7 ≠ g by omega), ev_ua (show g + 8 ≠ g by omega), ev_ua (show g + 8 ≠ g + 7 by omega), hx, hy]
    refine ⟨_, rfl, ?_, hF _ ?_ ?_ (fun b k q1 q2 q3 => ?_), fun b k q1 q2 => ?_⟩
    · rw [ev_ua (by omega), ev_ua (by omega), ev_us]
    · rw [ev_ua (by omega), ev_us]
    · rw [ev_us]
    · have e1 : ∀ f : Nat → Nat → Int32, ∀ v, (hv_u f (g + 8) w v) b k = f b k := fun f v => by
        rcases q2 with q | q
        · rw [ev_ua q]
        · rw [ev_uk q]
      have e2 : ∀ f : Nat → Nat → Int32, ∀ v, (hv_u f (g + 7) w v) b k = f b k := fun f v => by
        rcases q1 with q | q
        · rw [ev_ua q]
        · rw [ev_uk q]
      rw [e1, e2]
      rcases q3 with q | q
      · rw [ev_ua q]
      · rw [ev_uk q]
    · rw [ev_ua (by omega), ev_ua (by omega)]
      rcases q1 with q | q
      · rw [ev_ua q]
      · rw [ev_uk q]
  · rw [if_neg (fun e => hz (h63'.mp e)), if_neg hz, if_neg hz]
    exact ⟨I, rfl, ha, h, fun _ _ _ _ => rfl⟩
end R3
