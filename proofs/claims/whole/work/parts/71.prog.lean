/-! THE CLASS'S PROGRAM, while it is written -/
def cx (i : Nat × Nat × Nat) : Int32 := if i.1 = 8 then -1 else nI i.2.1
/-- all but the aims of h -/
def ph_R (I : Nat → Nat → Int32) (g h : Nat) (c : cd) : Prop := I g 3 = nI c.length ∧ ∀ (k : Nat) (i : Nat × Nat × Nat), c[k]? = some i → I (g + 1) k = nI (ck i.1) ∧ (k ≠ h → I (g + 2) k = cx i ∧ I (g + 3) k = nI i.2.2)
def pc_R (I : Nat → Nat → Int32) (g : Nat) (c : cd) : Prop := I g 3 = nI c.length ∧ ∀ (k : Nat) (i : Nat × Nat × Nat), c[k]? = some i → I (g + 1) k = nI (ck i.1) ∧ I (g + 2) k = cx i ∧ I (g + 3) k = nI i.2.2
theorem pc_ph {I : Nat → Nat → Int32} {g h : Nat} {c : cd} (hc : pc_R I g c) : ph_R I g h c := ⟨hc.1, fun k i hk => ⟨(hc.2 k i hk).1, fun _ => (hc.2 k i hk).2⟩⟩
section PR
variable {sh : Nat → Option (Nat × Nat)} {I : Nat → Nat → Int32} {J : Nat → Nat → Int64} {R : Nat → Nat → Option Nat} {n g : Nat} {c : cd}
theorem pc_mono {I' : Nat → Nat → Int32} (h : ∀ a k, g ≤ a → a ≤ g + 3 → I' a k = I a k) (hc : pc_R I g c) : pc_R I' g c := ⟨(h _ _ (by omega) (by omega)).trans hc.1, fun k i hk => ⟨(h _ _ (by omega) (by omega)).trans (hc.2 k i hk).1, (h _ _ (by omega) (by omega)).trans (hc.2 k i hk).2.1, (h _ _ (by omega) (by omega)).trans (hc.2 k i hk).2.2⟩⟩
theorem e_Pr_add0 {k x : Int32} (hl : ly_P sh R g) (hb : c.length < 49) (h3 : I g 3 = nI c.length) : f_Pr_add g k x (sh, I, J, R, n) = some (sh, hv_u (hv_u (hv_u (hv_u I (g + 1) c.length k) (g + 2) c.length x) (g + 3) c.length 0) g 3 (nI (c.length + 1)), J, R, n) := by
  obtain ⟨l0, l1, l2, l3, r0, r1, r2⟩ := hl
  have xi := ev_ix (N := 49) (k := c.length) hb (by omega)
  unfold f_Pr_add
  simp only [ev_ob l0, ev_b, ev_I, h3]
  rw [if_neg (nI_pos (by omega)), if_neg (by rw [li_49, nI_leI (by omega) (by omega)]; omega)]
  simp only [ev_R, r0, r1, r2, ev_ar0 l1, ev_ar0 l2, ev_ar0 l3, ev_b, xi, ev_sI, ev_I, ev_ua (show g ≠ g + 1 by omega), ev_ua (show g ≠ g + 2 by omega), ev_ua (show g ≠ g + 3 by omega), h3, nI_1]
theorem e_Pr_addh {h : Nat} {k x : Int32} {i : Nat × Nat × Nat} (hl : ly_P sh R g) (hb : c.length < 49) (hk : k = nI (ck i.1)) (hx : c.length ≠ h → x = cx i ∧ i.2.2 = 0) (hc : ph_R I g h c) :
    ∃ I', f_Pr_add g k x (sh, I, J, R, n) = some (sh, I', J, R, n) ∧ ph_R I' g h (c ++ [i]) ∧ (∀ a k, (a < g ∨ g + 3 < a) → I' a k = I a k) := by
  subst hk
  refine ⟨_, e_Pr_add0 hl hb hc.1, ⟨by rw [ev_us]; simp, fun m j hm => ?_⟩, fun a k q => by rw [ev_ua (by omega), ev_ua (by omega), ev_ua (by omega), ev_ua (by omega)]⟩
  rcases Nat.lt_trichotomy m c.length with q | q | q
  · rw [List.getElem?_append_left q] at hm
    obtain ⟨z1, z2⟩ := hc.2 m j hm
    refine ⟨?_, fun hh => ⟨?_, ?_⟩⟩
    · rw [ev_ua (by omega), ev_uk (by omega), ev_uk (by omega), ev_uk (by omega)]; exact z1
    · rw [ev_ua (by omega), ev_uk (by omega), ev_uk (by omega), ev_uk (by omega)]; exact (z2 hh).1
    · rw [ev_ua (by omega), ev_uk (by omega), ev_uk (by omega), ev_uk (by omega)]; exact (z2 hh).2
  · subst q
    simp at hm
    subst hm
    refine ⟨?_, fun hh => ⟨?_, ?_⟩⟩
    · rw [ev_ua (by omega), ev_ua (by omega), ev_ua (by omega), ev_us]
    · rw [ev_ua (by omega), ev_ua (by omega), ev_us]; exact (hx hh).1
    · rw [ev_ua (by omega), ev_us, (hx hh).2]; rfl
  · rw [List.getElem?_eq_none (by simp; omega)] at hm; cases hm
theorem e_Pr_add {k x : Int32} {i : Nat × Nat × Nat} (hl : ly_P sh R g) (hb : c.length < 49) (hk : k = nI (ck i.1)) (hx : x = cx i) (hy : i.2.2 = 0) (hc : pc_R I g c) :
    ∃ I', f_Pr_add g k x (sh, I, J, R, n) = some (sh, I', J, R, n) ∧ pc_R I' g (c ++ [i]) ∧ (∀ a k, (a < g ∨ g + 3 < a) → I' a k = I a k) := by
  obtain ⟨I1, e1, r1, K1⟩ := e_Pr_addh (J := J) (n := n) (h := 1000) hl hb hk (fun _ => ⟨hx, hy⟩) (pc_ph hc)
  refine ⟨I1, e1, ⟨r1.1, fun m j hm => ?_⟩, K1⟩
  have hml := gl hm
  simp at hml
  obtain ⟨z1, z2⟩ := r1.2 m j hm
  exact ⟨z1, z2 (by omega)⟩
theorem e_Pr_aim {h x y : Nat} (hl : ly_P sh R g) (hb : c.length ≤ 49) (hh : c[h]? = some (2, x, y)) (hc : ph_R I g h c) :
    ∃ I', f_Pr_aimSplit g (nI h) (nI x) (nI y) (sh, I, J, R, n) = some (sh, I', J, R, n) ∧ pc_R I' g c ∧ (∀ a k, (a < g ∨ g + 3 < a) → I' a k = I a k) := by
  obtain ⟨l0, l1, l2, l3, r0, r1, r2⟩ := hl
  have hhl := gl hh
  have xi := ev_ix (N := 49) (k := h) (by omega) (by omega)
  unfold f_Pr_aimSplit
  rw [if_neg (nI_pos (by omega))]
  simp only [ev_ob l0, ev_b, ev_I, hc.1]
  rw [if_neg (by rw [nI_leI (by omega) (by omega)]; omega), if_neg (by rw [li_49, nI_leI (by omega) (by omega)]; omega)]
  simp only [ev_R, r1, r2, ev_ar0 l2, ev_ar0 l3, ev_b, xi, ev_sI]
  refine ⟨_, rfl, ⟨by rw [ev_ua (by omega), ev_ua (by omega)]; exact hc.1, fun m j hm => ?_⟩, fun a k q => by rw [ev_ua (by omega), ev_ua (by omega)]⟩
  obtain ⟨z1, z2⟩ := hc.2 m j hm
  refine ⟨by rw [ev_ua (by omega), ev_ua (by omega)]; exact z1, ?_⟩
  by_cases e : m = h
  · subst e
    rw [hh] at hm
    injection hm with hm
    subst hm
    exact ⟨by rw [ev_ua (by omega), ev_us]; rfl, by rw [ev_us]⟩
  · exact ⟨by rw [ev_ua (by omega), ev_uk e]; exact (z2 e).1, by rw [ev_uk e, ev_ua (by omega)]; exact (z2 e).2⟩
theorem e_Pr_insloop {b d : Nat} (hl : ly_P sh R g) (hb : b ≤ c.length) (hlen : c.length < 49) (hok : ∀ i, i ∈ c → cok c.length d i) :
    ∀ (j N : Nat) (I : Nat → Nat → Int32), j < N → b + j ≤ c.length → (∀ (k : Nat) (i : Nat × Nat × Nat), k < b + j → c[k]? = some i → I (g + 1) k = nI (ck i.1) ∧ I (g + 2) k = cx i ∧ I (g + 3) k = nI i.2.2) → (∀ (k : Nat) (i : Nat × Nat × Nat), b + j < k → c[k - 1]? = some i → I (g + 1) k = nI (ck i.1) ∧ I (g + 2) k = cx (cs_h b i) ∧ I (g + 3) k = nI (cs_h b i).2.2) →
    ∃ I', L_Pr_insertSplit_27 N (some g) (nI b) (nI (b + j)) (sh, I, J, R, n) = some (sh, I', J, R, n) ∧ (∀ (k : Nat) (i : Nat × Nat × Nat), k < b → c[k]? = some i → I' (g + 1) k = nI (ck i.1) ∧ I' (g + 2) k = cx i ∧ I' (g + 3) k = nI i.2.2) ∧ (∀ (k : Nat) (i : Nat × Nat × Nat), b < k → c[k - 1]? = some i → I' (g + 1) k = nI (ck i.1) ∧ I' (g + 2) k = cx (cs_h b i) ∧ I' (g + 3) k = nI (cs_h b i).2.2) ∧ (∀ a k, (a < g + 1 ∨ g + 3 < a) → I' a k = I a k)
  | j, 0, _, h, _, _, _ => by omega
  | 0, N + 1, I, hN, hj, h1, h2 => by
    rw [L_Pr_insertSplit_27, if_pos (by rw [nI_leI (by omega) (by omega)]; omega)]
    exact ⟨I, rfl, h1, h2, fun _ _ _ => rfl⟩
  | j + 1, N + 1, I, hN, hj, h1, h2 => by
    obtain ⟨l0, l1, l2, l3, r0, r1, r2⟩ := hl
    have hi : c[b + j]? = some c[b + j] := List.getElem?_eq_getElem (by omega)
    generalize c[b + j]'(by omega) = i at hi
    obtain ⟨q1, q2, q3⟩ := h1 (b + j) i (by omega) hi
    obtain ⟨z1, z2, z3, z4, z5, z6⟩ := hok i (List.mem_of_getElem? hi)
    have x1 := ev_ix (N := 49) (k := b + j) (by omega) (by omega)
    have x2 := ev_ix (N := 49) (k := b + (j + 1)) (by omega) (by omega)
    have hsub : nI (b + (j + 1)) - 1 = nI (b + j) := by rw [li_1, pk_sub (by omega)]; congr 1
    have hdec : nI (b + (j + 1)) + -1 = nI (b + j) := by rw [← hsub, Int32.sub_eq_add_neg]
    have hck : ck i.1 < 100 := by unfold ck; split <;> omega
    rw [L_Pr_insertSplit_27, if_neg (by rw [nI_leI (by omega) (by omega)]; omega)]
    simp only [ev_ob l0, ev_b, ev_R, r0, r1, r2, ev_ar0 l1, ev_ar0 l2, ev_ar0 l3, ev_I, hsub, x1, x2, ev_sI, q1, ev_ua (show g + 2 ≠ g + 1 by omega), ev_ua (show g + 3 ≠ g + 1 by omega), ev_ua (show g + 3 ≠ g + 2 by omega), q2, q3]
    have ht6 : ((if nI (ck i.1) = 2 then some 1 else if nI (ck i.1) = 3 then some 1 else some 0) : Option Int32) = some (bI (decide (ck i.1 = 2 ∨ ck i.1 = 3))) := by
      by_cases h2 : ck i.1 = 2
      · rw [if_pos (by rw [h2]; rfl), decide_eq_true (Or.inl h2)]; rfl
      · rw [if_neg (by rw [li_2, nI_eq (by omega) (by omega)]; exact h2)]
        by_cases h3 : ck i.1 = 3
        · rw [if_pos (by rw [h3]; rfl), decide_eq_true (Or.inr h3)]; rfl
        · rw [if_neg (by rw [li_3, nI_eq (by omega) (by omega)]; exact h3), decide_eq_false (by omega)]; rfl
    have ht15 : ((if bI (decide (ck i.1 = 2 ∨ ck i.1 = 3)) = 0 then some (cx i) else if cx i < nI b then some (cx i) else some (cx i + 1)) : Option Int32) = some (cx (cs_h b i)) := by
      by_cases h8 : i.1 = 8
      · have hc3 : ck i.1 = 3 := by unfold ck; rw [if_pos h8]
        have hrx : cx i = -1 := by unfold cx; rw [if_pos h8]
        have hrx' : cx (cs_h b i) = -1 := by unfold cx; rw [if_pos (show (cs_h b i).1 = 8 from h8)]
        have hneg : (-1 : Int32) < nI b := by
          have := rx_neg 0 (by omega) b (by omega)
          exact this
        rw [hc3, if_neg (show ¬ bI (decide (3 = 2 ∨ 3 = 3)) = 0 by decide), hrx, hrx', if_pos hneg]
      · have hck' : ck i.1 = i.1 := by unfold ck; rw [if_neg h8]
        have hrx : cx i = nI i.2.1 := by unfold cx; rw [if_neg h8]
        have hrx' : cx (cs_h b i) = nI (cs_h b i).2.1 := by unfold cx; rw [if_neg (show ¬ (cs_h b i).1 = 8 from h8)]
        rw [hck', hrx, hrx']
        by_cases h23 : i.1 = 2 ∨ i.1 = 3
        · have hx : i.2.1 ≤ c.length := by
            rcases h23 with h | h
            · exact (z2 h).1
            · exact z3 h
          rw [if_neg (show ¬ bI (decide (i.1 = 2 ∨ i.1 = 3)) = 0 by rw [decide_eq_true h23]; decide)]
          by_cases hxb : i.2.1 < b
          · rw [if_pos (by rw [nI_ltI (by omega) (by omega)]; exact hxb)]
            unfold cs_h
            rw [if_neg (by omega)]
          · rw [if_neg (by rw [nI_ltI (by omega) (by omega)]; exact hxb), nI_1]
            unfold cs_h
            rw [if_pos ⟨h23, by omega⟩]
        · rw [if_pos (show bI (decide (i.1 = 2 ∨ i.1 = 3)) = 0 by rw [decide_eq_false h23]; rfl)]
          unfold cs_h
          rw [if_neg (by omega)]
    have ht25 : ((if nI (ck i.1) = 2 then if nI i.2.2 < nI b then some (nI i.2.2) else some (nI i.2.2 + 1) else some (nI i.2.2)) : Option Int32) = some (nI (cs_h b i).2.2) := by
      by_cases h2 : i.1 = 2
      · have hy := (z2 h2).2
        have hc2 : ck i.1 = 2 := by unfold ck; rw [if_neg (by omega)]; exact h2
        rw [hc2, if_pos (show nI 2 = 2 from rfl)]
        by_cases hyb : i.2.2 < b
        · rw [if_pos (by rw [nI_ltI (by omega) (by omega)]; exact hyb)]
          unfold cs_h
          rw [if_neg (show ¬ (i.1 = 2 ∧ b ≤ i.2.2) by omega)]
        · rw [if_neg (by rw [nI_ltI (by omega) (by omega)]; exact hyb), nI_1]
          unfold cs_h
          rw [if_pos (show i.1 = 2 ∧ b ≤ i.2.2 by omega)]
      · have hc2 : ¬ nI (ck i.1) = 2 := by
          rw [li_2, nI_eq (by omega) (by omega)]
          unfold ck
          split <;> omega
        rw [if_neg hc2]
        unfold cs_h
        rw [if_neg (show ¬ (i.1 = 2 ∧ b ≤ i.2.2) by omega)]
    rw [ht6, ev_b, ht15, ev_b]
    rw [ht25, ev_b]
    simp only [ev_b, x2, ev_sI, hdec]
    have B : ∀ a k, (a < g + 1 ∨ g + 3 < a ∨ k ≠ b + (j + 1)) → (hv_u (hv_u (hv_u I (g + 1) (b + (j + 1)) (nI (ck i.1))) (g + 2) (b + (j + 1)) (cx (cs_h b i))) (g + 3) (b + (j + 1)) (nI (cs_h b i).2.2)) a k = I a k := fun a k h => by
      by_cases hk : k = b + (j + 1)
      · rw [ev_ua (by omega), ev_ua (by omega), ev_ua (by omega)]
      · rw [ev_uk hk, ev_uk hk, ev_uk hk]
    obtain ⟨I4, e4, w1, w2, K4⟩ := e_Pr_insloop ⟨l0, l1, l2, l3, r0, r1, r2⟩ hb hlen hok j N (hv_u (hv_u (hv_u I (g + 1) (b + (j + 1)) (nI (ck i.1))) (g + 2) (b + (j + 1)) (cx (cs_h b i))) (g + 3) (b + (j + 1)) (nI (cs_h b i).2.2)) (by omega) (by omega) (fun k i' hk hi' => by rw [B _ _ (by omega), B _ _ (by omega), B _ _ (by omega)]; exact h1 k i' (by omega) hi') (fun k i' hk hi' => by
      by_cases e : k = b + (j + 1)
      · subst e
        rw [show b + (j + 1) - 1 = b + j from by omega, hi] at hi'
        injection hi' with hi'
        subst hi'
        exact ⟨by rw [ev_ua (by omega), ev_ua (by omega), ev_us], by rw [ev_ua (by omega), ev_us], ev_us⟩
      · rw [B _ _ (by omega), B _ _ (by omega), B _ _ (by omega)]; exact h2 k i' (by omega) hi')
    exact ⟨I4, e4, w1, w2, fun a k h => (K4 a k h).trans (B a k (by omega))⟩
theorem e_Pr_insert {b d x y : Nat} (hl : ly_P sh R g) (hb : b ≤ c.length) (hlen : c.length < 49) (hok : ∀ i, i ∈ c → cok c.length d i) (hc : pc_R I g c) :
    ∃ I', f_Pr_insertSplit g (nI b) (sh, I, J, R, n) = some (sh, I', J, R, n) ∧ ph_R I' g b (cs_i b x y c) ∧ (∀ a k, (a < g ∨ g + 3 < a) → I' a k = I a k) := by
  have hL := hl
  obtain ⟨l0, l1, l2, l3, r0, r1, r2⟩ := hl
  obtain ⟨I1, e1, w1, w2, K1⟩ := e_Pr_insloop (J := J) (n := n) hL hb hlen hok (c.length - b) 100000 I (by omega) (by omega) (fun k i _ hi => hc.2 k i hi) (fun k i hk hi => by have := gl hi; omega)
  rw [show b + (c.length - b) = c.length from by omega] at e1
  have xb := ev_ix (N := 49) (k := b) (by omega) (by omega)
  have h3 : I1 g 3 = nI c.length := (K1 _ _ (by omega)).trans hc.1
  unfold f_Pr_insertSplit
  rw [if_neg (nI_pos (by omega))]
  simp only [ev_ob l0, ev_b, ev_I, hc.1]
  rw [if_neg (by rw [nI_ltI (by omega) (by omega)]; omega), if_pos (by rw [li_49, nI_ltI (by omega) (by omega)]; omega)]
  simp only [e1, ev_b, ev_ob l0, ev_R, r0, ev_ar0 l1, xb, ev_sI, ev_I, ev_ua (show g ≠ g + 1 by omega), h3, nI_1]
  have K2 : ∀ a k, (a ≠ g ∨ k ≠ 3) → (a ≠ g + 1 ∨ k ≠ b) → (hv_u (hv_u I1 (g + 1) b 2) g 3 (nI (c.length + 1))) a k = I1 a k := fun a k q1 q2 => by
    have e : (hv_u (hv_u I1 (g + 1) b 2) g 3 (nI (c.length + 1))) a k = (hv_u I1 (g + 1) b 2) a k := by
      rcases q1 with q | q
      · rw [ev_ua q]
      · rw [ev_uk q]
    rw [e]
    rcases q2 with q | q
    · rw [ev_ua q]
    · rw [ev_uk q]
  refine ⟨_, rfl, ⟨by rw [ev_us, cs_il hb], fun k i hk => ?_⟩, fun a k q => (K2 a k (by omega) (by omega)).trans (K1 a k (by omega))⟩
  rw [cs_ig hb] at hk
  by_cases q1 : k < b
  · rw [if_pos q1] at hk
    obtain ⟨z1, z2, z3⟩ := w1 k i q1 hk
    exact ⟨by rw [K2 _ _ (by omega) (by omega)]; exact z1, fun _ => ⟨by rw [K2 _ _ (by omega) (by omega)]; exact z2, by rw [K2 _ _ (by omega) (by omega)]; exact z3⟩⟩
  · rw [if_neg q1] at hk
    by_cases e : k = b
    · rw [if_pos e] at hk
      subst e
      injection hk with hk
      subst hk
      exact ⟨by rw [ev_ua (by omega), ev_us]; rfl, fun h => absurd rfl h⟩
    · rw [if_neg e] at hk
      match hcc : c[k - 1]?, hk with
      | some j, hk =>
        have hk : some (cs_h b j) = some i := hk
        injection hk with hk
        subst hk
        obtain ⟨z1, z2, z3⟩ := w2 k j (by omega) hcc
        exact ⟨by rw [K2 _ _ (by omega) (by omega)]; exact z1, fun _ => ⟨by rw [K2 _ _ (by omega) (by omega)]; exact z2, by rw [K2 _ _ (by omega) (by omega)]; exact z3⟩⟩
      | none, hk => cases hk
theorem e_Pr_closeloop {d : Nat} {op : Nat → Nat} (hl : ly_P sh R g) (hlen : c.length ≤ 48) (hok : ∀ i, i ∈ c → cok c.length d i) (ht : tg c d op) :
    ∀ (j N k : Nat) (I : Nat → Nat → Int32), j < N → k + j = c.length → cb op d ≤ k → I g 3 = nI c.length → (∀ (m : Nat) (i : Nat × Nat × Nat), m < k → (cs_l d c)[m]? = some i → I (g + 1) m = nI (ck i.1) ∧ I (g + 2) m = cx i ∧ I (g + 3) m = nI i.2.2) → (∀ (m : Nat) (i : Nat × Nat × Nat), k ≤ m → c[m]? = some i → I (g + 1) m = nI (ck i.1) ∧ I (g + 2) m = cx i ∧ I (g + 3) m = nI i.2.2) →
    ∃ I', L_Pr_closeChoice_6 N (some g) (nI k) (sh, I, J, R, n) = some (sh, I', J, R, n) ∧ pc_R I' g (cs_l d c) ∧ (∀ a k, a ≠ g + 2 → I' a k = I a k)
  | j, 0, _, _, h, _, _, _, _, _ => by omega
  | 0, N + 1, k, I, hN, hk, hcb, h3, h1, h2 => by
    rw [L_Pr_closeChoice_6]
    simp only [ev_ob hl.1, ev_b, ev_I, h3]
    rw [if_pos (by rw [nI_leI (by omega) (by omega)]; omega)]
    exact ⟨I, rfl, ⟨by rw [cs_ll]; exact h3, fun m i hi => h1 m i (by have := gl hi; rw [cs_ll] at this; omega) hi⟩, fun _ _ _ => rfl⟩
  | j + 1, N + 1, k, I, hN, hk, hcb, h3, h1, h2 => by
    obtain ⟨l0, l1, l2, l3, r0, r1, r2⟩ := hl
    have hi : c[k]? = some c[k] := List.getElem?_eq_getElem (by omega)
    generalize c[k]'(by omega) = i at hi
    obtain ⟨q1, q2, q3⟩ := h2 k i (Nat.le_refl _) hi
    obtain ⟨z1, z2, z3, z4, z5, z6⟩ := hok i (List.mem_of_getElem? hi)
    have x1 := ev_ix (N := 49) (k := k) (by omega) (by omega)
    have hlk : (cs_l d c)[k]? = some (if i.1 = 8 ∧ i.2.1 = d then (3, c.length, i.2.2) else i) := by
      unfold cs_l
      rw [List.getElem?_map, hi]; rfl
    rw [L_Pr_closeChoice_6]
    simp only [ev_ob l0, ev_b, ev_I, h3]
    rw [if_neg (by rw [nI_leI (by omega) (by omega)]; omega), if_neg (by rw [li_49, nI_leI (by omega) (by omega)]; omega)]
    simp only [ev_R, r0, r1, ev_ar0 l1, ev_ar0 l2, ev_b, x1, q1, q2, ev_sI]
    have hgo : ∃ I1, ((if nI (ck i.1) = 3 then if cx i = -1 then some (sh, hv_u I (g + 2) k (nI c.length), J, R, n) else some (sh, I, J, R, n) else some (sh, I, J, R, n)) : Option hv_S) = some (sh, I1, J, R, n) ∧ (I1 (g + 1) k = nI (ck (if i.1 = 8 ∧ i.2.1 = d then (3, c.length, i.2.2) else i).1) ∧ I1 (g + 2) k = cx (if i.1 = 8 ∧ i.2.1 = d then (3, c.length, i.2.2) else i) ∧ I1 (g + 3) k = nI (if i.1 = 8 ∧ i.2.1 = d then (3, c.length, i.2.2) else i).2.2) ∧ (∀ a m, (a ≠ g + 2 ∨ m ≠ k) → I1 a m = I a m) := by
      by_cases h8 : i.1 = 8
      · have hc3 : ck i.1 = 3 := by unfold ck; rw [if_pos h8]
        have hrx : cx i = -1 := by unfold cx; rw [if_pos h8]
        have hd' : i.2.1 = d := by
          have := (ht k i hi h8 d (Nat.le_refl _)).mpr hcb
          have := z6 h8
          omega
        rw [hc3, if_pos (show nI 3 = 3 from rfl), hrx, if_pos rfl, if_pos ⟨h8, hd'⟩]
        refine ⟨_, rfl, ⟨?_, ?_, ?_⟩, fun a m h => ?_⟩
        · rw [ev_ua (by omega), q1, hc3]; rfl
        · rw [ev_us]; rfl
        · rw [ev_ua (by omega), q3]
        · rcases h with h | h
          · rw [ev_ua h]
          · rw [ev_uk h]
      · have hck' : ck i.1 = i.1 := by unfold ck; rw [if_neg h8]
        have hrx : cx i = nI i.2.1 := by unfold cx; rw [if_neg h8]
        rw [if_neg (show ¬ (i.1 = 8 ∧ i.2.1 = d) from fun e => h8 e.1)]
        refine ⟨I, ?_, ⟨q1, q2, q3⟩, fun _ _ _ => rfl⟩
        rw [hck', hrx]
        by_cases h33 : i.1 = 3
        · rw [if_pos (by rw [h33]; rfl), if_neg (by rw [ev_n1 (by have := z3 h33; omega)]; exact not_false)]
        · rw [if_neg (by rw [li_3, nI_eq (by omega) (by omega)]; exact h33)]
    obtain ⟨I1, e1, w1, K1⟩ := hgo
    rw [e1, ev_b, nI_1]
    obtain ⟨I2, e2, w2, K2⟩ := e_Pr_closeloop ⟨l0, l1, l2, l3, r0, r1, r2⟩ hlen hok ht j N (k + 1) I1 (by omega) (by omega) (by omega) ((K1 _ _ (by omega)).trans h3) (fun m i' hm hi' => by
      by_cases e : m = k
      · subst e
        rw [hlk] at hi'
        injection hi' with hi'
        subst hi'
        exact w1
      · rw [K1 _ _ (by omega), K1 _ _ (by omega), K1 _ _ (by omega)]; exact h1 m i' (by omega) hi') (fun m i' hm hi' => by rw [K1 _ _ (by omega), K1 _ _ (by omega), K1 _ _ (by omega)]; exact h2 m i' (by omega) hi')
    exact ⟨I2, e2, w2, fun a k h => (K2 a k h).trans (K1 a k (Or.inl h))⟩
theorem e_Pr_close {d : Nat} {op : Nat → Nat} (hl : ly_P sh R g) (hlen : c.length ≤ 48) (hok : ∀ i, i ∈ c → cok c.length d i) (ht : tg c d op) (hcb : cb op d ≤ c.length) (hc : pc_R I g c) :
    ∃ I', f_Pr_closeChoice g (nI (cb op d)) (sh, I, J, R, n) = some (sh, I', J, R, n) ∧ pc_R I' g (cs_l d c) ∧ (∀ a k, (a < g ∨ g + 3 < a) → I' a k = I a k) := by
  obtain ⟨I1, e1, w1, K1⟩ := e_Pr_closeloop (J := J) (n := n) hl hlen hok ht (c.length - cb op d) 100000 (cb op d) I (by omega) (by omega) (Nat.le_refl _) hc.1 (fun m i hm hi => by
    unfold cs_l at hi
    rw [List.getElem?_map] at hi
    match hcc : c[m]?, hi with
    | some j, hi =>
      have hi : some (if j.1 = 8 ∧ j.2.1 = d then (3, c.length, j.2.2) else j) = some i := hi
      injection hi with hi
      have hn : ¬ (j.1 = 8 ∧ j.2.1 = d) := fun e => by
        have := (ht m j hcc e.1 d (Nat.le_refl _)).mp (by omega)
        omega
      rw [if_neg hn] at hi
      subst hi
      exact hc.2 m j hcc
    | none, hi => cases hi) (fun m i _ hi => hc.2 m i hi)
  unfold f_Pr_closeChoice
  rw [ev_b, if_neg (nI_pos (by omega)), e1, ev_b]
  exact ⟨I1, rfl, w1, fun a k q => K1 a k (by omega)⟩
end PR
