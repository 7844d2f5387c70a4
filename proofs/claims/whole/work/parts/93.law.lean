/-! THE LAW: wrappers, and what stands between two calls -/
def wJ (w : Nat) (A : Int32 ⊕ Nat) (J : Nat → Nat → Int64) : Nat → Nat → Int64 :=
  match A with
  | .inl v => hv_u J w 0 v.toInt64
  | .inr _ => J
def bL (v : Int32) : Int64 := if v = 0 then 0 else 1
def wB (w : Nat) (A : Int32 ⊕ Nat) (J : Nat → Nat → Int64) : Nat → Nat → Int64 :=
  match A with
  | .inl v => hv_u J w 0 (bL v)
  | .inr _ => J
theorem wJ_k {w a k : Nat} {A : Int32 ⊕ Nat} {J : Nat → Nat → Int64} (h : a ≠ w) : wJ w A J a k = J a k := by
  cases A with
  | inl v => exact ev_ua h
  | inr _ => rfl
theorem wB_k {w a k : Nat} {A : Int32 ⊕ Nat} {J : Nat → Nat → Int64} (h : a ≠ w) : wB w A J a k = J a k := by
  cases A with
  | inl v => exact ev_ua h
  | inr _ => rfl
theorem lg_cr (x : Int64) : lg_cmp x x = 0 := by
  unfold lg_cmp
  simp
section LW
variable {sh : Nat → Option (Nat × Nat)} {I I1 I2 : Nat → Nat → Int32} {J J1 : Nat → Nat → Int64} {R R1 : Nat → Nat → Option Nat} {n n1 b g w lim B B' S S' c L : Nat} {Q Q' : Qs} {A : Int32 ⊕ Nat}
theorem ev_ro (h : sh c = some (2000, L)) : x_ro (sh, I, J, R, n) (some c) = some (c, L) := by
  unfold x_ro
  show (match sh c with | none => none | some x => if x.1 = 2000 then some (c, x.2) else none) = _
  rw [h]; rfl
theorem x10 : x_ix 1 0 = some 0 := by decide
theorem w_compile (hb : sh b = some (0, 0)) (hw : sh w = some (1001, 1)) (e : f_C_compile b (sh, I, J, R, n) = some (A, (sh, I1, J1, R1, n1))) (hA : ∀ k, A = .inr k → k = 89) : f_La_compile (some b) (some w) (sh, I, J, R, n) = some (tc 89 A, (sh, I1, wJ w A J1, R1, n1)) := by
  unfold f_La_compile
  rw [ev_ob hb, ev_b, e, ev_b]
  cases A with
  | inl v =>
    show ((x_ar (sh, I1, J1, R1, n1) 1 (some w)).bind fun q3 => (x_ix q3.2 0).bind fun k4 => (some (hv_setJ (sh, I1, J1, R1, n1) q3.1 k4 v.toInt64)).bind fun s5 => some ((0 : Int32), s5)) = _
    rw [ev_ar1 hw, ev_b, x10, ev_b, ev_sJ, ev_b]; rfl
  | inr k =>
    have := hA k rfl
    subst this
    rfl
theorem w_instruction {x y : Int32} (hb : sh b = some (0, 0)) (hw : sh w = some (1001, 1)) (e : f_C_instruction b x y (sh, I, J, R, n) = some (A, (sh, I1, J1, R1, n1))) (hA : ∀ k, A = .inr k → k = 114 ∨ k = 89) : f_La_instruction (some b) x y (some w) (sh, I, J, R, n) = some (tc 114 A, (sh, I1, wJ w A J1, R1, n1)) := by
  unfold f_La_instruction
  rw [ev_ob hb, ev_b, e, ev_b]
  cases A with
  | inl v =>
    show ((x_ar (sh, I1, J1, R1, n1) 1 (some w)).bind fun q3 => (x_ix q3.2 0).bind fun k4 => (some (hv_setJ (sh, I1, J1, R1, n1) q3.1 k4 v.toInt64)).bind fun s5 => some ((0 : Int32), s5)) = _
    rw [ev_ar1 hw, ev_b, x10, ev_b, ev_sJ, ev_b]; rfl
  | inr k =>
    rcases hA k rfl with h | h <;> subst h <;> rfl
theorem w_search {x : Int32} (hb : sh b = some (0, 0)) (hw : sh w = some (1001, 1)) (e : f_C_search b x (sh, I, J, R, n) = some (A, (sh, I1, J1, R1, n1))) (hA : ∀ k, A = .inr k → k = 89 ∨ k = 131) : f_La_search (some b) x (some w) (sh, I, J, R, n) = some (tc 89 A, (sh, I1, wJ w A J1, R1, n1)) := by
  unfold f_La_search
  rw [ev_ob hb, ev_b, e, ev_b]
  cases A with
  | inl v =>
    show ((x_ar (sh, I1, J1, R1, n1) 1 (some w)).bind fun q3 => (x_ix q3.2 0).bind fun k4 => (some (hv_setJ (sh, I1, J1, R1, n1) q3.1 k4 v.toInt64)).bind fun s5 => some ((0 : Int32), s5)) = _
    rw [ev_ar1 hw, ev_b, x10, ev_b, ev_sJ, ev_b]; rfl
  | inr k =>
    rcases hA k rfl with h | h <;> subst h <;> rfl
theorem w_slot {x y : Int32} (hb : sh b = some (0, 0)) (hw : sh w = some (1001, 1)) (e : f_C_slot b x y (sh, I, J, R, n) = some (A, (sh, I1, J1, R1, n1))) (hA : ∀ k, A = .inr k → k = 114) : f_La_slot (some b) x y (some w) (sh, I, J, R, n) = some (tc 114 A, (sh, I1, wJ w A J1, R1, n1)) := by
  unfold f_La_slot
  rw [ev_ob hb, ev_b, e, ev_b]
  cases A with
  | inl v =>
    show ((x_ar (sh, I1, J1, R1, n1) 1 (some w)).bind fun q3 => (x_ix q3.2 0).bind fun k4 => (some (hv_setJ (sh, I1, J1, R1, n1) q3.1 k4 v.toInt64)).bind fun s5 => some ((0 : Int32), s5)) = _
    rw [ev_ar1 hw, ev_b, x10, ev_b, ev_sJ, ev_b]; rfl
  | inr k =>
    have := hA k rfl
    subst this
    rfl
theorem w_breaks (hb : sh b = some (0, 0)) (hw : sh w = some (1001, 1)) (e : f_C_breaks b (sh, I, J, R, n) = some (A, (sh, I1, J1, R1, n1))) (hA : ∀ k, A = .inr k → k = 131) : f_La_breaks (some b) (some w) (sh, I, J, R, n) = some (tc 131 A, (sh, I1, wJ w A J1, R1, n1)) := by
  unfold f_La_breaks
  rw [ev_ob hb, ev_b, e, ev_b]
  cases A with
  | inl v =>
    show ((x_ar (sh, I1, J1, R1, n1) 1 (some w)).bind fun q3 => (x_ix q3.2 0).bind fun k4 => (some (hv_setJ (sh, I1, J1, R1, n1) q3.1 k4 v.toInt64)).bind fun s5 => some ((0 : Int32), s5)) = _
    rw [ev_ar1 hw, ev_b, x10, ev_b, ev_sJ, ev_b]; rfl
  | inr k =>
    have := hA k rfl
    subst this
    rfl
theorem w_simple (hb : sh b = some (0, 0)) (hw : sh w = some (1001, 1)) (e : f_C_simple b (sh, I, J, R, n) = some (A, (sh, I1, J1, R1, n1))) (hA : ∀ k, A = .inr k → k = 131) : f_La_simple (some b) (some w) (sh, I, J, R, n) = some (tc 131 A, (sh, I1, wB w A J1, R1, n1)) := by
  unfold f_La_simple
  rw [ev_ob hb, ev_b, e, ev_b]
  cases A with
  | inl v =>
    show (((if v = 0 then some 0 else some 1) : Option Int64).bind fun t3 => (x_ar (sh, I1, J1, R1, n1) 1 (some w)).bind fun q3 => (x_ix q3.2 0).bind fun k4 => (some (hv_setJ (sh, I1, J1, R1, n1) q3.1 k4 t3)).bind fun s5 => some ((0 : Int32), s5)) = _
    have e2 : ((if v = 0 then some 0 else some 1) : Option Int64) = some (bL v) := by
      unfold bL; split <;> rfl
    rw [e2, ev_b, ev_ar1 hw, ev_b, x10, ev_b, ev_sJ, ev_b]; rfl
  | inr k =>
    have := hA k rfl
    subst this
    rfl
/-- answers are compared: they agree -/
theorem law_tail {a : Nat} {K : hv_S → Option (hv_S ⊕ (Int32 × hv_S))} (hl : ly_M sh R g) (hw : sh w = some (1001, 1)) (h0 : I g 0 = tc a A) :
    ((x_ob (sh, I, wJ w A J, R, n) 11 (some g)).bind fun a28 => (f_Mo_thrown a28 (sh, I, wJ w A J, R, n)).bind fun p29 => if p29.1 = tc a A then (if tc a A = 0 then (x_ar p29.2 1 (some w)).bind fun q30 => (x_ix q30.2 0).bind fun k31 => if (lg_cmp (hv_J p29.2 q30.1 k31) (th_v A).toInt64) = 0 then K p29.2 else some (.inr ((0, p29.2))) else K p29.2) else some (.inr ((0, p29.2)))) = K (sh, I, wJ w A J, R, n) := by
  have e : f_Mo_thrown g (sh, I, wJ w A J, R, n) = some (tc a A, (sh, I, wJ w A J, R, n)) := by
    unfold f_Mo_thrown
    rw [ev_ob (ms_o hl), ev_b, ev_I, h0]
  rw [ev_ob (ms_o hl), ev_b, e, ev_b, if_pos rfl]
  cases A with
  | inl v =>
    rw [if_pos (show tc a (.inl v) = 0 from rfl), ev_ar1 hw, ev_b, x10, ev_b]
    show (if lg_cmp (hv_u J w 0 v.toInt64 w 0) v.toInt64 = 0 then _ else _) = _
    rw [ev_us, if_pos (lg_cr _)]
  | inr k =>
    rw [if_neg]
    show ¬ (if k = a then (1 : Int32) else 2) = 0
    split <;> decide
theorem law_tailB {a : Nat} {K : hv_S → Option (hv_S ⊕ (Int32 × hv_S))} (hl : ly_M sh R g) (hw : sh w = some (1001, 1)) (h0 : I g 0 = tc a A) :
    ((x_ob (sh, I, wB w A J, R, n) 11 (some g)).bind fun a28 => (f_Mo_thrown a28 (sh, I, wB w A J, R, n)).bind fun p29 => if p29.1 = tc a A then (if tc a A = 0 then (x_ar p29.2 1 (some w)).bind fun q30 => (x_ix q30.2 0).bind fun k31 => ((if th_v A = 0 then some 0 else some 1) : Option Int64).bind fun t51 => if (lg_cmp (hv_J p29.2 q30.1 k31) t51) = 0 then K p29.2 else some (.inr ((0, p29.2))) else K p29.2) else some (.inr ((0, p29.2)))) = K (sh, I, wB w A J, R, n) := by
  have e : f_Mo_thrown g (sh, I, wB w A J, R, n) = some (tc a A, (sh, I, wB w A J, R, n)) := by
    unfold f_Mo_thrown
    rw [ev_ob (ms_o hl), ev_b, ev_I, h0]
  rw [ev_ob (ms_o hl), ev_b, e, ev_b, if_pos rfl]
  cases A with
  | inl v =>
    rw [if_pos (show tc a (.inl v) = 0 from rfl), ev_ar1 hw, ev_b, x10, ev_b]
    have e2 : ((if th_v (.inl v) = 0 then some 0 else some 1) : Option Int64) = some (bL v) := by
      show ((if v = 0 then some 0 else some 1) : Option Int64) = some (bL v)
      unfold bL; split <;> rfl
    rw [e2, ev_b]
    show (if lg_cmp (hv_u J w 0 (bL v) w 0) (bL v) = 0 then _ else _) = _
    rw [ev_us, if_pos (lg_cr _)]
  | inr k =>
    rw [if_neg]
    show ¬ (if k = a then (1 : Int32) else 2) = 0
    split <;> decide
theorem co_h : ∀ k, co_A Q = .inr k → k = 89 := by
  intro k h
  unfold co_A at h
  split at h
  · cases h; rfl
  · cases h
theorem in_h {x y : Int32} : ∀ k, in_A Q x y = .inr k → k = 114 ∨ k = 89 := by
  intro k h
  unfold in_A in_P at h
  repeat' split at h
  all_goals cases h
  all_goals first | exact Or.inl rfl | exact Or.inr rfl
theorem se_h {x : Int32} : ∀ k, se_A Q lim x = .inr k → k = 89 ∨ k = 131 := by
  intro k h
  unfold se_A at h
  repeat' split at h
  all_goals cases h
  all_goals first | exact Or.inl rfl | exact Or.inr rfl
theorem so_h {x y : Int32} : ∀ k, so_A Q x y = .inr k → k = 114 := by
  intro k h
  unfold so_A at h
  repeat' split at h
  all_goals cases h
  all_goals rfl
theorem sp_h : ∀ k, sp_A Q = .inr k → k = 131 := by
  intro k h
  unfold sp_A at h
  split at h
  · cases h; rfl
  · cases h
theorem br_h : ∀ k, br_A Q = .inr k → k = 131 := by
  intro k h
  unfold br_A at h
  split at h
  · cases h; rfl
  · cases h
def LI (sh : Nat → Option (Nat × Nat)) (b g lim B S : Nat) (Q : Qs) (I : Nat → Nat → Int32) (J : Nat → Nat → Int64) (R : Nat → Nat → Option Nat) : Prop := CL sh I J R b lim Q ∧ ly_M sh R g ∧ MO I g lim S Q ∧ AU lim B Q
theorem ly_M_R (h : ∀ k, R1 g k = R g k) (hl : ly_M sh R g) : ly_M sh R1 g := by
  have e : R1 g = R g := funext h
  unfold ly_M at hl ⊢
  rw [e]; exact hl
theorem LI_pre (hg : g = b + 46 + 3 * lim) (h : LI sh b g lim B S Q I J R) (hk : cK b lim I I1 J J1 R R1) : ly_M sh R1 g ∧ MO I1 g lim S Q := by
  obtain ⟨h1, h2, h3, h4⟩ := h
  exact ⟨ly_M_R (fun k => (hk g k (by omega)).2.2) h2, MO_mono h4.1 (fun a k q => (hk a k (by omega)).1) h3⟩
theorem LI_post {J2 : Nat → Nat → Int64} (hg : g = b + 46 + 3 * lim) (hM : ly_M sh R1 g) (hc : CL sh I1 J1 R1 b lim Q') (hA : AU lim B' Q') (hJ : J2 b 11 = J1 b 11) (hm : MO I2 g lim S' Q') (hf : ∀ a k, a < g ∨ g + 27 < a → I2 a k = I1 a k) : LI sh b g lim B' S' Q' I2 J2 R1 :=
  ⟨CL_mono hA.1 (fun a k q => hf a k (by omega)) hJ hc, hM, hm, hA⟩
end LW
