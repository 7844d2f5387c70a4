/-! THE REFERENCE: layout, copying loops, ways, lists, following -/
def ly_M (sh : Nat → Option (Nat × Nat)) (R : Nat → Nat → Option Nat) (g : Nat) : Prop := sh g = some (11, 0) ∧ sh (g + 1) = some (1000, 24) ∧ sh (g + 2) = some (1000, 20) ∧ sh (g + 3) = some (1000, 64) ∧ sh (g + 4) = some (1000, 64) ∧ sh (g + 5) = some (1000, 64) ∧ sh (g + 6) = some (1000, 64) ∧ sh (g + 7) = some (1000, 64) ∧ sh (g + 8) = some (1000, 64) ∧ sh (g + 9) = some (1000, 64) ∧ sh (g + 10) = some (1000, 600) ∧ sh (g + 11) = some (1000, 600) ∧ sh (g + 12) = some (1000, 4800) ∧ sh (g + 13) = some (1000, 8) ∧ sh (g + 14) = some (1000, 2) ∧ sh (g + 15) = some (1000, 128) ∧ sh (g + 16) = some (1000, 1024) ∧ sh (g + 17) = some (1003, 1344) ∧ sh (g + 18) = some (1000, 19) ∧ sh (g + 19) = some (1000, 1216) ∧ sh (g + 20) = some (1003, 19) ∧ sh (g + 21) = some (1000, 152) ∧ sh (g + 22) = some (1000, 64) ∧ sh (g + 23) = some (1000, 8) ∧ sh (g + 24) = some (1000, 4) ∧ sh (g + 25) = some (1000, 4) ∧ sh (g + 26) = some (1000, 4) ∧ sh (g + 27) = some (1000, 8) ∧ R g 3 = some (g + 1) ∧ R g 5 = some (g + 2) ∧ R g 7 = some (g + 3) ∧ R g 8 = some (g + 4) ∧ R g 9 = some (g + 5) ∧ R g 11 = some (g + 6) ∧ R g 12 = some (g + 7) ∧ R g 13 = some (g + 8) ∧ R g 17 = some (g + 9) ∧ R g 19 = some (g + 10) ∧ R g 20 = some (g + 11) ∧ R g 21 = some (g + 12) ∧ R g 22 = some (g + 13) ∧ R g 23 = some (g + 14) ∧ R g 24 = some (g + 15) ∧ R g 25 = some (g + 16) ∧ R g 26 = some (g + 17) ∧ R g 30 = some (g + 18) ∧ R g 31 = some (g + 19) ∧ R g 32 = some (g + 20) ∧ R g 33 = some (g + 21) ∧ R g 35 = some (g + 22) ∧ R g 40 = some (g + 23) ∧ R g 41 = some (g + 24) ∧ R g 42 = some (g + 25) ∧ R g 43 = some (g + 26) ∧ R g 44 = some (g + 27)
section MO
variable {sh : Nat → Option (Nat × Nat)} {I : Nat → Nat → Int32} {J : Nat → Nat → Int64} {R : Nat → Nat → Option Nat} {n g : Nat}
theorem ms_o (h : ly_M sh R g) : sh g = some (11, 0) := h.1
theorem ms_1 (h : ly_M sh R g) : sh (g + 1) = some (1000, 24) := h.2.1
theorem ms_2 (h : ly_M sh R g) : sh (g + 2) = some (1000, 20) := h.2.2.1
theorem ms_3 (h : ly_M sh R g) : sh (g + 3) = some (1000, 64) := h.2.2.2.1
theorem ms_4 (h : ly_M sh R g) : sh (g + 4) = some (1000, 64) := h.2.2.2.2.1
theorem ms_5 (h : ly_M sh R g) : sh (g + 5) = some (1000, 64) := h.2.2.2.2.2.1
theorem ms_6 (h : ly_M sh R g) : sh (g + 6) = some (1000, 64) := h.2.2.2.2.2.2.1
theorem ms_7 (h : ly_M sh R g) : sh (g + 7) = some (1000, 64) := h.2.2.2.2.2.2.2.1
theorem ms_8 (h : ly_M sh R g) : sh (g + 8) = some (1000, 64) := h.2.2.2.2.2.2.2.2.1
theorem ms_9 (h : ly_M sh R g) : sh (g + 9) = some (1000, 64) := h.2.2.2.2.2.2.2.2.2.1
theorem ms_10 (h : ly_M sh R g) : sh (g + 10) = some (1000, 600) := h.2.2.2.2.2.2.2.2.2.2.1
theorem ms_11 (h : ly_M sh R g) : sh (g + 11) = some (1000, 600) := h.2.2.2.2.2.2.2.2.2.2.2.1
theorem ms_12 (h : ly_M sh R g) : sh (g + 12) = some (1000, 4800) := h.2.2.2.2.2.2.2.2.2.2.2.2.1
theorem ms_13 (h : ly_M sh R g) : sh (g + 13) = some (1000, 8) := h.2.2.2.2.2.2.2.2.2.2.2.2.2.1
theorem ms_14 (h : ly_M sh R g) : sh (g + 14) = some (1000, 2) := h.2.2.2.2.2.2.2.2.2.2.2.2.2.2.1
theorem ms_15 (h : ly_M sh R g) : sh (g + 15) = some (1000, 128) := h.2.2.2.2.2.2.2.2.2.2.2.2.2.2.2.1
theorem ms_16 (h : ly_M sh R g) : sh (g + 16) = some (1000, 1024) := h.2.2.2.2.2.2.2.2.2.2.2.2.2.2.2.2.1
theorem ms_17 (h : ly_M sh R g) : sh (g + 17) = some (1003, 1344) := h.2.2.2.2.2.2.2.2.2.2.2.2.2.2.2.2.2.1
theorem ms_18 (h : ly_M sh R g) : sh (g + 18) = some (1000, 19) := h.2.2.2.2.2.2.2.2.2.2.2.2.2.2.2.2.2.2.1
theorem ms_19 (h : ly_M sh R g) : sh (g + 19) = some (1000, 1216) := h.2.2.2.2.2.2.2.2.2.2.2.2.2.2.2.2.2.2.2.1
theorem ms_20 (h : ly_M sh R g) : sh (g + 20) = some (1003, 19) := h.2.2.2.2.2.2.2.2.2.2.2.2.2.2.2.2.2.2.2.2.1
theorem ms_21 (h : ly_M sh R g) : sh (g + 21) = some (1000, 152) := h.2.2.2.2.2.2.2.2.2.2.2.2.2.2.2.2.2.2.2.2.2.1
theorem ms_22 (h : ly_M sh R g) : sh (g + 22) = some (1000, 64) := h.2.2.2.2.2.2.2.2.2.2.2.2.2.2.2.2.2.2.2.2.2.2.1
theorem ms_23 (h : ly_M sh R g) : sh (g + 23) = some (1000, 8) := h.2.2.2.2.2.2.2.2.2.2.2.2.2.2.2.2.2.2.2.2.2.2.2.1
theorem ms_24 (h : ly_M sh R g) : sh (g + 24) = some (1000, 4) := h.2.2.2.2.2.2.2.2.2.2.2.2.2.2.2.2.2.2.2.2.2.2.2.2.1
theorem ms_25 (h : ly_M sh R g) : sh (g + 25) = some (1000, 4) := h.2.2.2.2.2.2.2.2.2.2.2.2.2.2.2.2.2.2.2.2.2.2.2.2.2.1
theorem ms_26 (h : ly_M sh R g) : sh (g + 26) = some (1000, 4) := h.2.2.2.2.2.2.2.2.2.2.2.2.2.2.2.2.2.2.2.2.2.2.2.2.2.2.1
theorem ms_27 (h : ly_M sh R g) : sh (g + 27) = some (1000, 8) := h.2.2.2.2.2.2.2.2.2.2.2.2.2.2.2.2.2.2.2.2.2.2.2.2.2.2.2.1
theorem mr_3 (h : ly_M sh R g) : R g 3 = some (g + 1) := h.2.2.2.2.2.2.2.2.2.2.2.2.2.2.2.2.2.2.2.2.2.2.2.2.2.2.2.2.1
theorem mr_5 (h : ly_M sh R g) : R g 5 = some (g + 2) := h.2.2.2.2.2.2.2.2.2.2.2.2.2.2.2.2.2.2.2.2.2.2.2.2.2.2.2.2.2.1
theorem mr_7 (h : ly_M sh R g) : R g 7 = some (g + 3) := h.2.2.2.2.2.2.2.2.2.2.2.2.2.2.2.2.2.2.2.2.2.2.2.2.2.2.2.2.2.2.1
theorem mr_8 (h : ly_M sh R g) : R g 8 = some (g + 4) := h.2.2.2.2.2.2.2.2.2.2.2.2.2.2.2.2.2.2.2.2.2.2.2.2.2.2.2.2.2.2.2.1
theorem mr_9 (h : ly_M sh R g) : R g 9 = some (g + 5) := h.2.2.2.2.2.2.2.2.2.2.2.2.2.2.2.2.2.2.2.2.2.2.2.2.2.2.2.2.2.2.2.2.1
theorem mr_11 (h : ly_M sh R g) : R g 11 = some (g + 6) := h.2.2.2.2.2.2.2.2.2.2.2.2.2.2.2.2.2.2.2.2.2.2.2.2.2.2.2.2.2.2.2.2.2.1
theorem mr_12 (h : ly_M sh R g) : R g 12 = some (g + 7) := h.2.2.2.2.2.2.2.2.2.2.2.2.2.2.2.2.2.2.2.2.2.2.2.2.2.2.2.2.2.2.2.2.2.2.1
theorem mr_13 (h : ly_M sh R g) : R g 13 = some (g + 8) := h.2.2.2.2.2.2.2.2.2.2.2.2.2.2.2.2.2.2.2.2.2.2.2.2.2.2.2.2.2.2.2.2.2.2.2.1
theorem mr_17 (h : ly_M sh R g) : R g 17 = some (g + 9) := h.2.2.2.2.2.2.2.2.2.2.2.2.2.2.2.2.2.2.2.2.2.2.2.2.2.2.2.2.2.2.2.2.2.2.2.2.1
theorem mr_19 (h : ly_M sh R g) : R g 19 = some (g + 10) := h.2.2.2.2.2.2.2.2.2.2.2.2.2.2.2.2.2.2.2.2.2.2.2.2.2.2.2.2.2.2.2.2.2.2.2.2.2.1
theorem mr_20 (h : ly_M sh R g) : R g 20 = some (g + 11) := h.2.2.2.2.2.2.2.2.2.2.2.2.2.2.2.2.2.2.2.2.2.2.2.2.2.2.2.2.2.2.2.2.2.2.2.2.2.2.1
theorem mr_21 (h : ly_M sh R g) : R g 21 = some (g + 12) := h.2.2.2.2.2.2.2.2.2.2.2.2.2.2.2.2.2.2.2.2.2.2.2.2.2.2.2.2.2.2.2.2.2.2.2.2.2.2.2.1
theorem mr_22 (h : ly_M sh R g) : R g 22 = some (g + 13) := h.2.2.2.2.2.2.2.2.2.2.2.2.2.2.2.2.2.2.2.2.2.2.2.2.2.2.2.2.2.2.2.2.2.2.2.2.2.2.2.2.1
theorem mr_23 (h : ly_M sh R g) : R g 23 = some (g + 14) := h.2.2.2.2.2.2.2.2.2.2.2.2.2.2.2.2.2.2.2.2.2.2.2.2.2.2.2.2.2.2.2.2.2.2.2.2.2.2.2.2.2.1
theorem mr_24 (h : ly_M sh R g) : R g 24 = some (g + 15) := h.2.2.2.2.2.2.2.2.2.2.2.2.2.2.2.2.2.2.2.2.2.2.2.2.2.2.2.2.2.2.2.2.2.2.2.2.2.2.2.2.2.2.1
theorem mr_25 (h : ly_M sh R g) : R g 25 = some (g + 16) := h.2.2.2.2.2.2.2.2.2.2.2.2.2.2.2.2.2.2.2.2.2.2.2.2.2.2.2.2.2.2.2.2.2.2.2.2.2.2.2.2.2.2.2.1
theorem mr_26 (h : ly_M sh R g) : R g 26 = some (g + 17) := h.2.2.2.2.2.2.2.2.2.2.2.2.2.2.2.2.2.2.2.2.2.2.2.2.2.2.2.2.2.2.2.2.2.2.2.2.2.2.2.2.2.2.2.2.1
theorem mr_30 (h : ly_M sh R g) : R g 30 = some (g + 18) := h.2.2.2.2.2.2.2.2.2.2.2.2.2.2.2.2.2.2.2.2.2.2.2.2.2.2.2.2.2.2.2.2.2.2.2.2.2.2.2.2.2.2.2.2.2.1
theorem mr_31 (h : ly_M sh R g) : R g 31 = some (g + 19) := h.2.2.2.2.2.2.2.2.2.2.2.2.2.2.2.2.2.2.2.2.2.2.2.2.2.2.2.2.2.2.2.2.2.2.2.2.2.2.2.2.2.2.2.2.2.2.1
theorem mr_32 (h : ly_M sh R g) : R g 32 = some (g + 20) := h.2.2.2.2.2.2.2.2.2.2.2.2.2.2.2.2.2.2.2.2.2.2.2.2.2.2.2.2.2.2.2.2.2.2.2.2.2.2.2.2.2.2.2.2.2.2.2.1
theorem mr_33 (h : ly_M sh R g) : R g 33 = some (g + 21) := h.2.2.2.2.2.2.2.2.2.2.2.2.2.2.2.2.2.2.2.2.2.2.2.2.2.2.2.2.2.2.2.2.2.2.2.2.2.2.2.2.2.2.2.2.2.2.2.2.1
theorem mr_35 (h : ly_M sh R g) : R g 35 = some (g + 22) := h.2.2.2.2.2.2.2.2.2.2.2.2.2.2.2.2.2.2.2.2.2.2.2.2.2.2.2.2.2.2.2.2.2.2.2.2.2.2.2.2.2.2.2.2.2.2.2.2.2.1
theorem mr_40 (h : ly_M sh R g) : R g 40 = some (g + 23) := h.2.2.2.2.2.2.2.2.2.2.2.2.2.2.2.2.2.2.2.2.2.2.2.2.2.2.2.2.2.2.2.2.2.2.2.2.2.2.2.2.2.2.2.2.2.2.2.2.2.2.1
theorem mr_41 (h : ly_M sh R g) : R g 41 = some (g + 24) := h.2.2.2.2.2.2.2.2.2.2.2.2.2.2.2.2.2.2.2.2.2.2.2.2.2.2.2.2.2.2.2.2.2.2.2.2.2.2.2.2.2.2.2.2.2.2.2.2.2.2.2.1
theorem mr_42 (h : ly_M sh R g) : R g 42 = some (g + 25) := h.2.2.2.2.2.2.2.2.2.2.2.2.2.2.2.2.2.2.2.2.2.2.2.2.2.2.2.2.2.2.2.2.2.2.2.2.2.2.2.2.2.2.2.2.2.2.2.2.2.2.2.2.1
theorem mr_43 (h : ly_M sh R g) : R g 43 = some (g + 26) := h.2.2.2.2.2.2.2.2.2.2.2.2.2.2.2.2.2.2.2.2.2.2.2.2.2.2.2.2.2.2.2.2.2.2.2.2.2.2.2.2.2.2.2.2.2.2.2.2.2.2.2.2.2.1
theorem mr_44 (h : ly_M sh R g) : R g 44 = some (g + 27) := h.2.2.2.2.2.2.2.2.2.2.2.2.2.2.2.2.2.2.2.2.2.2.2.2.2.2.2.2.2.2.2.2.2.2.2.2.2.2.2.2.2.2.2.2.2.2.2.2.2.2.2.2.2.2
/-- k places of array a from p on are those of b from q on -/
def cpk (I : Nat → Nat → Int32) (a p b q k : Nat) : Nat → Nat → Int32 := fun c m => if c = a ∧ p ≤ m ∧ m < p + k then I b (q + (m - p)) else I c m
theorem cpk_0 {a p b q : Nat} : cpk I a p b q 0 = I := by
  funext c m; unfold cpk; exact if_neg (by omega)
theorem cpk_s {a p b q k : Nat} : hv_u (cpk I a p b q k) a (p + k) (I b (q + k)) = cpk I a p b q (k + 1) := by
  funext c m
  unfold hv_u cpk
  by_cases h : m = p + k ∧ c = a
  · obtain ⟨rfl, rfl⟩ := h
    rw [if_pos ⟨rfl, rfl⟩, if_pos (by omega), show q + (p + k - p) = q + k from by omega]
  · rw [if_neg h]
    by_cases h2 : c = a ∧ p ≤ m ∧ m < p + k
    · rw [if_pos h2, if_pos (by omega)]
    · rw [if_neg h2, if_neg (by omega)]
theorem cpk_i {a p b q k m : Nat} (h : m < k) : cpk I a p b q k a (p + m) = I b (q + m) := by
  unfold cpk; rw [if_pos (by omega), show q + (p + m - p) = q + m from by omega]
theorem cpk_i0 {a b q k m : Nat} (h : m < k) : cpk I a 0 b q k a m = I b (q + m) := by
  unfold cpk; rw [if_pos (by omega), show q + (m - 0) = q + m from by omega]
theorem cpk_o {a p b q k c m : Nat} (h : c ≠ a ∨ m < p ∨ p + k ≤ m) : cpk I a p b q k c m = I c m := by
  unfold cpk; exact if_neg (by omega)
theorem cpk_c {a p b q k c m : Nat} (h : c ≠ a) : cpk I a p b q k c m = I c m := cpk_o (Or.inl h)
def fl8 (I : Nat → Nat → Int32) (a k : Nat) : Nat → Nat → Int32 := fun c m => if c = a ∧ m < k then -1 else I c m
theorem fl8_0 {a : Nat} : fl8 I a 0 = I := by
  funext c m; unfold fl8; exact if_neg (by omega)
theorem fl8_s {a k : Nat} : hv_u (fl8 I a k) a k (-1) = fl8 I a (k + 1) := by
  funext c m
  unfold hv_u fl8
  by_cases h : m = k ∧ c = a
  · rw [if_pos h, if_pos (by omega)]
  · rw [if_neg h]
    by_cases h2 : c = a ∧ m < k
    · rw [if_pos h2, if_pos (by omega)]
    · rw [if_neg h2, if_neg (by omega)]
theorem e_L_Mo_otherWay_22 {c : Nat} (hl : ly_M sh R g) (hc : I g 18 = nI c) (hb : c < 600) : ∀ (j N : Nat), j ≤ 8 → j < N → L_Mo_otherWay_22 N (some g) (nI (8 - j)) (sh, cpk I (g + 12) (8 * c) (g + 13) (0) (8 - j), J, R, n) = some (sh, cpk I (g + 12) (8 * c) (g + 13) (0) 8, J, R, n)
  | j, 0, _, h => by omega
  | 0, N + 1, _, _ => by
    unfold L_Mo_otherWay_22
    simp (disch := omega) only [li_8, nI_leI, ev_it]
  | j + 1, N + 1, h8, hN => by
    unfold L_Mo_otherWay_22
    have ih := e_L_Mo_otherWay_22 hl hc hb j N (by omega) (by omega)
    rw [show 8 - j = 8 - (j + 1) + 1 from by omega, ← cpk_s] at ih
    simp (disch := omega) only [li_8, li_1, nI_leI, ev_if, ev_b, ev_ob (ms_o hl), ev_I, ev_R, ev_sI, mr_22 hl, mr_21 hl, ev_ar0 (ms_13 hl), ev_ar0 (ms_12 hl), hc, ev_ix, pk_mul, nI_add, cpk_c, ih, Nat.zero_add] at ih ⊢
    exact ih
theorem e_L_Mo_back_21 {c : Nat} (hl : ly_M sh R g) (hc : I g 18 = nI c) (hb : c < 600) : ∀ (j N : Nat), j ≤ 8 → j < N → L_Mo_back_21 N (some g) (nI (8 - j)) (sh, cpk I (g + 13) (0) (g + 12) (8 * c) (8 - j), J, R, n) = some (sh, cpk I (g + 13) (0) (g + 12) (8 * c) 8, J, R, n)
  | j, 0, _, h => by omega
  | 0, N + 1, _, _ => by
    unfold L_Mo_back_21
    simp (disch := omega) only [li_8, nI_leI, ev_it]
  | j + 1, N + 1, h8, hN => by
    unfold L_Mo_back_21
    have ih := e_L_Mo_back_21 hl hc hb j N (by omega) (by omega)
    rw [show 8 - j = 8 - (j + 1) + 1 from by omega, ← cpk_s] at ih
    simp (disch := omega) only [li_8, li_1, nI_leI, ev_if, ev_b, ev_ob (ms_o hl), ev_I, ev_R, ev_sI, mr_22 hl, mr_21 hl, ev_ar0 (ms_13 hl), ev_ar0 (ms_12 hl), hc, ev_ix, pk_mul, nI_add, cpk_c, ih, Nat.zero_add] at ih ⊢
    exact ih
theorem e_L_Mo_enter_22 {c : Nat} {x : Int32} (hl : ly_M sh R g) (hb : c < 128) : ∀ (j N : Nat), j ≤ 8 → j < N → L_Mo_enter_22 N (some g) x (nI c) (nI (8 - j)) (sh, cpk I (g + 16) (8 * c) (g + 13) (0) (8 - j), J, R, n) = some (sh, cpk I (g + 16) (8 * c) (g + 13) (0) 8, J, R, n)
  | j, 0, _, h => by omega
  | 0, N + 1, _, _ => by
    unfold L_Mo_enter_22
    simp (disch := omega) only [li_8, nI_leI, ev_it]
  | j + 1, N + 1, h8, hN => by
    unfold L_Mo_enter_22
    have ih := e_L_Mo_enter_22 (x := x) hl hb j N (by omega) (by omega)
    rw [show 8 - j = 8 - (j + 1) + 1 from by omega, ← cpk_s] at ih
    simp (disch := omega) only [li_8, li_1, nI_leI, ev_if, ev_b, ev_ob (ms_o hl), ev_I, ev_R, ev_sI, mr_22 hl, mr_25 hl, ev_ar0 (ms_13 hl), ev_ar0 (ms_16 hl), ev_ix, pk_mul, nI_add, cpk_c, ih, Nat.zero_add] at ih ⊢
    exact ih
theorem e_L_Mo_take_2 {c : Nat} (hl : ly_M sh R g) (hb : c < 128) : ∀ (j N : Nat), j ≤ 8 → j < N → L_Mo_take_2 N (some g) (nI c) (nI (8 - j)) (sh, cpk I (g + 13) (0) (g + 16) (8 * c) (8 - j), J, R, n) = some (sh, cpk I (g + 13) (0) (g + 16) (8 * c) 8, J, R, n)
  | j, 0, _, h => by omega
  | 0, N + 1, _, _ => by
    unfold L_Mo_take_2
    simp (disch := omega) only [li_8, nI_leI, ev_it]
  | j + 1, N + 1, h8, hN => by
    unfold L_Mo_take_2
    have ih := e_L_Mo_take_2 hl hb j N (by omega) (by omega)
    rw [show 8 - j = 8 - (j + 1) + 1 from by omega, ← cpk_s] at ih
    simp (disch := omega) only [li_8, li_1, nI_leI, ev_if, ev_b, ev_ob (ms_o hl), ev_I, ev_R, ev_sI, mr_22 hl, mr_25 hl, ev_ar0 (ms_13 hl), ev_ar0 (ms_16 hl), ev_ix, pk_mul, nI_add, cpk_c, ih, Nat.zero_add] at ih ⊢
    exact ih
theorem e_L_Mo_note_7 {x : Int32} (hl : ly_M sh R g) : ∀ (j N : Nat), j ≤ 8 → j < N → L_Mo_note_7 N (some g) x (nI (8 - j)) (sh, cpk I (g + 23) (0) (g + 13) (0) (8 - j), J, R, n) = some (sh, cpk I (g + 23) (0) (g + 13) (0) 8, J, R, n)
  | j, 0, _, h => by omega
  | 0, N + 1, _, _ => by
    unfold L_Mo_note_7
    simp (disch := omega) only [li_8, nI_leI, ev_it]
  | j + 1, N + 1, h8, hN => by
    unfold L_Mo_note_7
    have ih := e_L_Mo_note_7 (x := x) hl j N (by omega) (by omega)
    rw [show 8 - j = 8 - (j + 1) + 1 from by omega, ← cpk_s] at ih
    simp (disch := omega) only [li_8, li_1, nI_leI, ev_if, ev_b, ev_ob (ms_o hl), ev_I, ev_R, ev_sI, mr_22 hl, mr_40 hl, ev_ar0 (ms_13 hl), ev_ar0 (ms_23 hl), ev_ix, pk_mul, nI_add, cpk_c, ih, Nat.zero_add] at ih ⊢
    exact ih
theorem e_L_Mo_begin_2 {x : Int32} (hl : ly_M sh R g) : ∀ (j N : Nat), j ≤ 8 → j < N → L_Mo_begin_2 N (some g) x (nI (8 - j)) (sh, fl8 I (g + 13) (8 - j), J, R, n) = some (sh, fl8 I (g + 13) 8, J, R, n)
  | j, 0, _, h => by omega
  | 0, N + 1, _, _ => by
    unfold L_Mo_begin_2
    simp (disch := omega) only [li_8, nI_leI, ev_it]
  | j + 1, N + 1, h8, hN => by
    unfold L_Mo_begin_2
    have ih := e_L_Mo_begin_2 (x := x) hl j N (by omega) (by omega)
    rw [show 8 - j = 8 - (j + 1) + 1 from by omega, ← fl8_s] at ih
    simp (disch := omega) only [li_8, li_1, nI_leI, ev_if, ev_b, ev_ob (ms_o hl), ev_I, ev_R, ev_sI, mr_22 hl, ev_ar0 (ms_13 hl), ev_ix, nI_add] at ih ⊢
    exact ih
/-- eight places of a from p on hold the slots of w -/
def sl_R (I : Nat → Nat → Int32) (a p : Nat) (w : Int64) : Prop := ∀ k, k < 8 → I a (p + k) = sl_g w k
/-- the ways that wait: instruction, place, slots -/
def wy_R (I : Nat → Nat → Int32) (g : Nat) : List (Nat × Nat × Int64) → Prop
  | [] => True
  | e :: r => I (g + 10) r.length = nI e.1 ∧ I (g + 11) r.length = nI e.2.1 ∧ sl_R I (g + 12) (8 * r.length) e.2.2 ∧ wy_R I g r
theorem wy_R_mono {I I' : Nat → Nat → Int32} {g : Nat} : ∀ (r : List (Nat × Nat × Int64)), (∀ k, k < r.length → I' (g + 10) k = I (g + 10) k ∧ I' (g + 11) k = I (g + 11) k) → (∀ k, k < 8 * r.length → I' (g + 12) k = I (g + 12) k) → wy_R I g r → wy_R I' g r
  | [], _, _, _ => trivial
  | e :: r, h, h', ⟨h1, h2, h3, h4⟩ => by
    have hh := h r.length (by simp)
    exact ⟨hh.1.trans h1, hh.2.trans h2, fun k hk => (h' _ (by simp; omega)).trans (h3 k hk), wy_R_mono r (fun k hk => h k (by simp; omega)) (fun k hk => h' k (by simp; omega)) h4⟩
/-- what behind and back may change -/
def bh_K (g : Nat) (I I' : Nat → Nat → Int32) : Prop := ∀ a k, (a ≠ g ∨ k ≠ 18) → (a < g + 10 ∨ g + 13 < a) → I' a k = I a k
theorem bh_K_refl {g : Nat} {I : Nat → Nat → Int32} : bh_K g I I := fun _ _ _ _ => rfl
theorem bh_K_trans {g : Nat} {I I' I2 : Nat → Nat → Int32} (h : bh_K g I I') (k : bh_K g I' I2) : bh_K g I I2 := fun a j h1 h2 => (k a j h1 h2).trans (h a j h1 h2)
/-- where the reference stands: the instruction at hand and its slots are the top of the ways -/
def bh_R (I : Nat → Nat → Int32) (g : Nat) (x : Int32) : List (Nat × Nat × Int64) → Prop
  | [] => x = -1 ∧ I g 18 = nI 0
  | e :: r => x = nI e.1 ∧ I g 18 = nI r.length ∧ sl_R I (g + 13) 0 e.2.2 ∧ wy_R I g r
/-- the slots at hand are those of some thread -/
def nw_R (I : Nat → Nat → Int32) (g : Nat) : Prop := ∃ w, sl_R I (g + 13) 0 w
theorem nw_mono {I I' : Nat → Nat → Int32} {g : Nat} (h : ∀ k, I' (g + 13) k = I (g + 13) k) (hn : nw_R I g) : nw_R I' g := by
  obtain ⟨w, hw⟩ := hn
  exact ⟨w, fun k hk => (h _).trans (hw k hk)⟩
theorem e_Mo_otherWay {i pl : Nat} {w : Int64} {r : List (Nat × Nat × Int64)} (hl : ly_M sh R g) (hc : I g 18 = nI r.length) (hb : r.length < 600) (hn : sl_R I (g + 13) 0 w) (hw : wy_R I g r) :
    ∃ I', f_Mo_otherWay g (nI i) (nI pl) (sh, I, J, R, n) = some (sh, I', J, R, n) ∧ I' g 18 = nI (r.length + 1) ∧ sl_R I' (g + 13) 0 w ∧ wy_R I' g ((i, pl, w) :: r) ∧ bh_K g I I' := by
  have e1 := e_L_Mo_otherWay_22 (I := hv_u (hv_u I (g + 10) r.length (nI i)) (g + 11) r.length (nI pl)) (J := J) (n := n) (c := r.length) hl (by rw [ev_ua (by omega), ev_ua (by omega)]; exact hc) hb 8 100000 (by omega) (by omega)
  rw [show 8 - 8 = 0 from rfl, cpk_0] at e1
  unfold f_Mo_otherWay
  simp (disch := omega) only [li_0, li_1, ev_b, ev_ob (ms_o hl), ev_I, ev_R, ev_sI, mr_19 hl, mr_20 hl, ev_ar0 (ms_10 hl), ev_ar0 (ms_11 hl), hc, ev_ix, ev_ua, e1, cpk_c, nI_add]
  refine ⟨_, rfl, ev_us, fun k hk => ?_, ⟨?_, ?_, fun k hk => ?_, wy_R_mono r (fun k hk => ⟨?_, ?_⟩) (fun k hk => ?_) hw⟩, fun a k h1 h2 => ?_⟩
  · rw [ev_ua (by omega), cpk_c (by omega), ev_ua (by omega), ev_ua (by omega)]; exact hn k hk
  · rw [ev_ua (by omega), cpk_c (by omega), ev_ua (by omega), ev_us]
  · rw [ev_ua (by omega), cpk_c (by omega), ev_us]
  · rw [ev_ua (by omega), cpk_i hk, ev_ua (by omega), ev_ua (by omega)]; exact hn k hk
  · rw [ev_ua (by omega), cpk_c (by omega), ev_ua (by omega), ev_uk (by omega)]
  · rw [ev_ua (by omega), cpk_c (by omega), ev_uk (by omega)]
    rw [ev_ua (by omega)]
  · rw [ev_ua (by omega), cpk_o (by omega), ev_ua (by omega), ev_ua (by omega)]
  · by_cases ha : a = g
    · subst ha
      rw [ev_uk (by omega), cpk_c (by omega), ev_ua (by omega), ev_ua (by omega)]
    · rw [ev_ua ha, cpk_c (by omega), ev_ua (by omega), ev_ua (by omega)]
theorem e_Mo_back {r : List (Nat × Nat × Int64)} (hl : ly_M sh R g) (hc : I g 18 = nI r.length) (hb : r.length < 600) (hw : wy_R I g r) :
    ∃ x I', f_Mo_back g (sh, I, J, R, n) = some (x, (sh, I', J, R, n)) ∧ bh_R I' g x r ∧ bh_K g I I' ∧ (∀ k, I' (g + 11) k = I (g + 11) k) ∧ (nw_R I g → nw_R I' g) := by
  unfold f_Mo_back
  match r with
  | [] =>
    have hc : I g 18 = nI 0 := hc
    simp (disch := omega) only [li_0, ev_b, ev_ob (ms_o hl), ev_I, hc, ev_it]
    exact ⟨_, _, rfl, ⟨rfl, hc⟩, bh_K_refl, fun _ => rfl, fun h => h⟩
  | e :: r =>
    obtain ⟨h1, h2, h3, h4⟩ := hw
    have hb : r.length + 1 < 600 := hb
    have hc : I g 18 = nI (r.length + 1) := hc
    have e1 := e_L_Mo_back_21 (I := hv_u I g 18 (nI r.length)) (J := J) (n := n) (c := r.length) hl ev_us (by omega) 8 100000 (by omega) (by omega)
    rw [show 8 - 8 = 0 from rfl, cpk_0] at e1
    simp (disch := omega) only [li_0, li_1, ev_b, ev_ob (ms_o hl), ev_I, ev_R, ev_sI, mr_19 hl, ev_ar0 (ms_10 hl), hc, nI_eq, ev_if, pk_sub, Nat.add_sub_cancel, e1, cpk_c, ev_us, ev_ix, ev_ua, h1]
    refine ⟨_, _, rfl, ⟨rfl, ?_, fun k hk => ?_, wy_R_mono r (fun k hk => ⟨?_, ?_⟩) (fun k hk => ?_) h4⟩, fun a k g1 g2 => ?_, fun k => ?_, fun _ => ⟨e.2.2, fun k hk => by rw [Nat.zero_add, cpk_i0 hk, ev_ua (by omega)]; exact h3 k hk⟩⟩
    · rw [cpk_c (by omega), ev_us]
    · rw [Nat.zero_add, cpk_i0 hk, ev_ua (by omega)]; exact h3 k hk
    · rw [cpk_c (by omega), ev_ua (by omega)]
    · rw [cpk_c (by omega), ev_ua (by omega)]
    · rw [cpk_c (by omega), ev_ua (by omega)]
    · rw [cpk_c (by omega)]
      by_cases ha : a = g
      · subst ha; rw [ev_uk (by omega)]
      · rw [ev_ua ha]
    · rw [cpk_c (by omega), ev_ua (by omega)]
/-- the program of the reference -/
def mo_P (I : Nat → Nat → Int32) (g : Nat) (P : pg_P) : Prop := I g 6 = nI P.1 ∧ ∀ i, i < P.1 → I (g + 3) i = nI (P.2.1 i) ∧ I (g + 4) i = nI (P.2.2.1 i) ∧ I (g + 5) i = nI (P.2.2.2 i)
theorem e_bh_k {i pl : Nat} {P : pg_P} (hl : ly_M sh R g) (hp : mo_P I g P) (hW : pg_W P) (hi : i < P.1) : f_Mo_behind g (nI i) (nI pl) (sh, I, J, R, n) =
    if P.2.1 i = 2 then (f_Mo_otherWay g (nI (P.2.2.2 i)) (nI pl) (sh, I, J, R, n)).bind fun p7 => (x_ob p7 11 (some g)).bind fun a8 => (x_ar p7 0 (hv_R p7 a8 8)).bind fun q9 => (x_ix q9.2 (nI i)).bind fun k10 => some ((hv_I p7 q9.1 k10, p7))
    else if P.2.1 i = 3 then some (nI (P.2.2.1 i), (sh, I, J, R, n))
    else if P.2.1 i = 4 then some (nI (i + 1), (sh, hv_u I (g + 13) (P.2.2.1 i) (nI pl), J, R, n))
    else if P.2.1 i = 5 then some (if nI pl = 0 then nI (i + 1) else -1, (sh, I, J, R, n))
    else if P.2.1 i = 6 then some (if nI pl = I g 4 then nI (i + 1) else -1, (sh, I, J, R, n))
    else some (-1, (sh, I, J, R, n)) := by
  obtain ⟨p0, p1⟩ := hp
  obtain ⟨k1, k2, k3⟩ := p1 i hi
  have hn49 := hW.2.1
  obtain ⟨w7, wf, w2, w3, w4, w0⟩ := hW.2.2.1 i hi
  have hx := ev_ix (N := 64) (k := i) (by omega) (by omega)
  unfold f_Mo_behind
  simp only [ev_b, ev_ob (ms_o hl), ev_I, ev_R, mr_7 hl, mr_8 hl, mr_9 hl, mr_22 hl, ev_ar0 (ms_3 hl), ev_ar0 (ms_4 hl), ev_ar0 (ms_5 hl), ev_ar0 (ms_13 hl), hx, k1, k2, k3, li_2, li_3, li_4, li_5, li_6, nI_eq (show P.2.1 i < 2 ^ 31 by omega) (show 2 < 2 ^ 31 by omega), nI_eq (show P.2.1 i < 2 ^ 31 by omega) (show 3 < 2 ^ 31 by omega), nI_eq (show P.2.1 i < 2 ^ 31 by omega) (show 4 < 2 ^ 31 by omega), nI_eq (show P.2.1 i < 2 ^ 31 by omega) (show 5 < 2 ^ 31 by omega), nI_eq (show P.2.1 i < 2 ^ 31 by omega) (show 6 < 2 ^ 31 by omega)]
  by_cases h4 : P.2.1 i = 4
  · rw [if_neg (by omega), if_neg (by omega), if_pos h4, if_neg (by omega), if_neg (by omega), if_pos h4, ev_ix (by have := w4 h4; omega) (by omega), nI_1]
    rfl
  · rw [if_neg h4, if_neg h4]
    by_cases h5 : nI pl = 0
    · by_cases h6 : nI pl = I g 4
      · simp only [if_pos h5, if_pos h6, ev_b, nI_1]
      · simp only [if_pos h5, if_neg h6, ev_b, nI_1]
    · by_cases h6 : nI pl = I g 4
      · simp only [if_neg h5, if_pos h6, ev_b, nI_1]
      · simp only [if_neg h5, if_neg h6, ev_b]
/-- behind, as the ways it makes -/
theorem e_Mo_behind {i pl fed : Nat} {w : Int64} {P : pg_P} {r : List (Nat × Nat × Int64)} (hl : ly_M sh R g) (hp : mo_P I g P) (hW : pg_W P) (hi : i < P.1) (hpl : pl < 31) (hf : I g 4 = nI fed) (hfb : fed < 31) (hc : I g 18 = nI r.length) (hb : r.length + 1 < 600) (hn : sl_R I (g + 13) 0 w) (hw : wy_R I g r) :
    ∃ x I', f_Mo_behind g (nI i) (nI pl) (sh, I, J, R, n) = some (x, (sh, I', J, R, n)) ∧ bh_K g I I' ∧
      ((fo_nx P pl (if pl = fed then 1 else 0) i w = [] ∧ x = -1 ∧ I' = I) ∨ (fo_nx P pl (if pl = fed then 1 else 0) i w ≠ [] ∧ bh_R I' g x ((fo_nx P pl (if pl = fed then 1 else 0) i w).map (fun e => (e.1, pl, e.2)) ++ r))) := by
  rw [e_bh_k hl hp hW hi]
  obtain ⟨p0, p1⟩ := hp
  obtain ⟨k1, k2, k3⟩ := p1 i hi
  have hn49 := hW.2.1
  obtain ⟨w7, wf, w2, w3, w4, w0⟩ := hW.2.2.1 i hi
  have hcs : P.2.1 i = 2 ∨ P.2.1 i = 3 ∨ P.2.1 i = 4 ∨ P.2.1 i = 5 ∨ P.2.1 i = 6 ∨ (P.2.1 i < 2 ∨ P.2.1 i = 7) := by omega
  rcases hcs with hk | hk | hk | hk | hk | hk
  · obtain ⟨I1, e1, a1, a2, a3, a4⟩ := e_Mo_otherWay (J := J) (n := n) (i := P.2.2.2 i) (pl := pl) hl hc (by omega) hn hw
    have k2' : I1 (g + 4) i = nI (P.2.2.1 i) := (a4 _ _ (by omega) (by omega)).trans k2
    rw [if_pos hk, e1]
    simp only [ev_b, ev_ob (ms_o hl), ev_R, mr_8 hl, ev_ar0 (ms_4 hl), ev_ix (show i < 64 by omega) (by omega), ev_I, k2']
    refine ⟨_, _, rfl, a4, Or.inr ?_⟩
    simp only [fo_nx, hk]
    exact ⟨by simp, rfl, a1, a2, a3⟩
  · rw [if_neg (by omega), if_pos hk]
    refine ⟨_, _, rfl, bh_K_refl, Or.inr ?_⟩
    simp only [fo_nx, hk]
    exact ⟨by simp, rfl, hc, hn, hw⟩
  · have w4' := w4 hk
    rw [if_neg (by omega), if_neg (by omega), if_pos hk]
    refine ⟨_, _, rfl, fun a k h1 h2 => ?_, Or.inr ?_⟩
    · rw [ev_ua (by omega)]
    · simp only [fo_nx, hk]
      refine ⟨by simp, rfl, ?_, fun k hk8 => ?_, wy_R_mono r (fun k hk => ⟨?_, ?_⟩) (fun k hk => ?_) hw⟩
      · rw [ev_ua (by omega)]; exact hc
      · show _ = sl_g (sl_w w (P.2.2.1 i) pl) k
        rw [sl_gw (by omega) hk8 hpl, Nat.zero_add]
        by_cases e : k = P.2.2.1 i
        · rw [if_pos e, e, ev_us]
        · rw [if_neg e, ev_uk e]
          have := hn k hk8
          rw [Nat.zero_add] at this; exact this
      · rw [ev_ua (by omega)]
      · rw [ev_ua (by omega)]
      · rw [ev_ua (by omega)]
  · rw [if_neg (by omega), if_neg (by omega), if_neg (by omega), if_pos hk, li_0]
    by_cases hz : pl = 0
    · rw [if_pos (by rw [hz])]
      refine ⟨_, _, rfl, bh_K_refl, Or.inr ?_⟩
      simp only [fo_nx, hk, hz]
      exact ⟨by simp, rfl, hc, hn, hw⟩
    · rw [if_neg (by rw [nI_eq (by omega) (by omega)]; exact hz)]
      refine ⟨_, _, rfl, bh_K_refl, Or.inl ⟨?_, rfl, rfl⟩⟩
      simp [fo_nx, hk, hz]
  · rw [if_neg (by omega), if_neg (by omega), if_neg (by omega), if_neg (by omega), if_pos hk, hf]
    by_cases hz : pl = fed
    · rw [if_pos (by rw [hz])]
      refine ⟨_, _, rfl, bh_K_refl, Or.inr ?_⟩
      simp only [fo_nx, hk, hz]
      exact ⟨by simp, rfl, hc, hn, hw⟩
    · rw [if_neg (by rw [nI_eq (by omega) (by omega)]; exact hz)]
      refine ⟨_, _, rfl, bh_K_refl, Or.inl ⟨?_, rfl, rfl⟩⟩
      simp [fo_nx, hk, hz]
  · rw [if_neg (by omega), if_neg (by omega), if_neg (by omega), if_neg (by omega), if_neg (by omega)]
    refine ⟨_, _, rfl, bh_K_refl, Or.inl ⟨?_, rfl, rfl⟩⟩
    unfold fo_nx
    rw [if_neg (by omega), if_neg (by omega), if_neg (by omega), if_neg (by omega), if_neg (by omega)]
end MO
