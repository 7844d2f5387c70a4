/-! NEW CELLS -/
/-- from n on to n' all is new and zero; of the old only z's references may differ -/
def AL (z n n' : Nat) (sh : Nat → Option (Nat × Nat)) (I : Nat → Nat → Int32) (J : Nat → Nat → Int64) (R : Nat → Nat → Option Nat) (sh' : Nat → Option (Nat × Nat)) (I' : Nat → Nat → Int32) (J' : Nat → Nat → Int64) (R' : Nat → Nat → Option Nat) : Prop := n ≤ n' ∧ (∀ a, a < n → sh' a = sh a) ∧ (∀ a k, a < n → I' a k = I a k ∧ J' a k = J a k) ∧ (∀ a k, n ≤ a → a < n' → I' a k = 0 ∧ J' a k = 0) ∧ (∀ a k, a < n → a ≠ z → R' a k = R a k)
def lp (lo hi : Nat) (P : (Nat → Option (Nat × Nat)) → (Nat → Nat → Option Nat) → Prop) : Prop := ∀ sh sh' R R', (∀ a, lo ≤ a → a < hi → sh' a = sh a) → (∀ a k, lo ≤ a → a < hi → R' a k = R a k) → P sh R → P sh' R'
def inL (ci z : Nat) : List ((Nat × Nat) × Nat) → (hv_S → Option hv_S) → hv_S → Option hv_S
  | [], F, s => F s
  | e :: r, F, s => (some (hv_n s)).bind fun n1 => (some (hv_new s e.1)).bind fun s2 => (x_ob s2 ci (some z)).bind fun a3 => (some (hv_setR s2 a3 e.2 (some n1))).bind fun s4 => inL ci z r F s4
section AL
variable {sh sh' sh2 : Nat → Option (Nat × Nat)} {I I' I2 : Nat → Nat → Int32} {J J' J2 : Nat → Nat → Int64} {R R' R2 : Nat → Nat → Option Nat} {n n' n2 z : Nat}
theorem AL_trans (h : AL z n n' sh I J R sh' I' J' R') (k : AL z n' n2 sh' I' J' R' sh2 I2 J2 R2) : AL z n n2 sh I J R sh2 I2 J2 R2 := by
  obtain ⟨h0, h1, h2, h3, h4⟩ := h
  obtain ⟨k0, k1, k2, k3, k4⟩ := k
  refine ⟨by omega, fun a q => (k1 a (by omega)).trans (h1 a q), fun a j q => ⟨((k2 a j (by omega)).1).trans (h2 a j q).1, ((k2 a j (by omega)).2).trans (h2 a j q).2⟩, fun a j q1 q2 => ?_, fun a j q1 q2 => (k4 a j (by omega) q2).trans (h4 a j q1 q2)⟩
  by_cases ha : a < n'
  · exact ⟨((k2 a j ha).1).trans (h3 a j q1 ha).1, ((k2 a j ha).2).trans (h3 a j q1 ha).2⟩
  · exact k3 a j (by omega) q2
theorem lp_AL {lo hi : Nat} {P : (Nat → Option (Nat × Nat)) → (Nat → Nat → Option Nat) → Prop} (hp : lp lo hi P) (h : AL z n n' sh I J R sh' I' J' R') (hh : hi ≤ n) (hz : z < lo ∨ hi ≤ z) (hP : P sh R) : P sh' R' := hp _ _ _ _ (fun a q1 q2 => h.2.1 a (by omega)) (fun a k q1 q2 => h.2.2.2.2 a k (by omega) (by omega)) hP
theorem inL_spec {ci : Nat} : ∀ (l : List ((Nat × Nat) × Nat)) (n : Nat) (sh : Nat → Option (Nat × Nat)) (I : Nat → Nat → Int32) (J : Nat → Nat → Int64) (R : Nat → Nat → Option Nat), z < n → sh z = some (ci, 0) → (l.map (fun e => e.2)).Nodup →
    ∃ sh' I' J' R', (∀ F, inL ci z l F (sh, I, J, R, n) = F (sh', I', J', R', n + l.length)) ∧ AL z n (n + l.length) sh I J R sh' I' J' R' ∧ (∀ j e, l[j]? = some e → sh' (n + j) = some e.1 ∧ R' z e.2 = some (n + j)) ∧ (∀ k, k ∉ l.map (fun e => e.2) → R' z k = R z k)
  | [], n, sh, I, J, R, _, _, _ => ⟨sh, I, J, R, fun F => rfl, ⟨Nat.le_refl _, fun _ _ => rfl, fun _ _ _ => ⟨rfl, rfl⟩, fun a k q1 q2 => by simp at q2; omega, fun _ _ _ _ => rfl⟩, fun j e h => by simp at h, fun _ _ => rfl⟩
  | e :: r, n, sh, I, J, R, hz, hs, hd => by
    have hd' : e.2 ∉ r.map (fun e => e.2) ∧ (r.map (fun e => e.2)).Nodup := by
      rw [List.map_cons, List.nodup_cons] at hd; exact hd
    have hs1 : (fun b => if b = n then some e.1 else sh b) z = some (ci, 0) := by
      show (if z = n then some e.1 else sh z) = _
      rw [if_neg (by omega)]; exact hs
    obtain ⟨sh', I', J', R', h1, h2, h3, h4⟩ := inL_spec r (n + 1) (fun b => if b = n then some e.1 else sh b) (fun b j => if b = n then 0 else I b j) (fun b j => if b = n then 0 else J b j) (hv_u (fun b j => if b = n then none else R b j) z e.2 (some n)) (by omega) hs1 hd'.2
    have hlen : n + 1 + r.length = n + (e :: r).length := by rw [List.length_cons]; omega
    refine ⟨sh', I', J', R', fun F => ?_, ?_, fun j e' hj => ?_, fun k hk => ?_⟩
    · rw [← hlen, ← h1 F]
      unfold inL
      have ho : x_ob (hv_new (sh, I, J, R, n) e.1) ci (some z) = some z := by
        unfold x_ob; exact if_pos hs1
      rw [ev_b, ev_b, ho, ev_b, ev_b]
      cases r <;> rfl
    · rw [← hlen]
      obtain ⟨a0, a1, a2, a3, a4⟩ := h2
      refine ⟨by omega, fun a q => (a1 a (by omega)).trans (if_neg (by omega)), fun a j q => ⟨((a2 a j (by omega)).1).trans (if_neg (by omega)), ((a2 a j (by omega)).2).trans (if_neg (by omega))⟩, fun a j q1 q2 => ?_, fun a j q1 q2 => (a4 a j (by omega) q2).trans ((ev_ua q2).trans (if_neg (by omega)))⟩
      by_cases ha : a = n
      · exact ⟨((a2 a j (by omega)).1).trans (if_pos ha), ((a2 a j (by omega)).2).trans (if_pos ha)⟩
      · exact a3 a j (by omega) q2
    · cases j with
      | zero =>
        have he : e = e' := by simpa using hj
        subst he
        refine ⟨(h2.2.1 n (by omega)).trans (if_pos rfl), (h4 _ hd'.1).trans ev_us⟩
      | succ j =>
        have hj : r[j]? = some e' := by simpa using hj
        have := h3 j e' hj
        rw [show n + (j + 1) = n + 1 + j from by omega]; exact this
    · have hk : k ≠ e.2 ∧ k ∉ r.map (fun e => e.2) := by simpa using hk
      exact (h4 k hk.2).trans ((ev_uk hk.1).trans (if_neg (by omega)))
theorem sub_step {f : Nat → hv_S → Option hv_S} {ci k c : Nat} {x : Nat × Nat} {P : (Nat → Option (Nat × Nat)) → (Nat → Nat → Option Nat) → Prop} (hz : z < n) (h : sh z = some (ci, 0)) (hp : lp n (n + 1 + c) P) (hf : ∀ sh I J R, sh n = some x → ∃ sh' I' J' R', f n (sh, I, J, R, n + 1) = some (sh', I', J', R', n + 1 + c) ∧ AL n (n + 1) (n + 1 + c) sh I J R sh' I' J' R' ∧ P sh' R') :
    ∃ sh' I' J' R', (∀ F : hv_S → Option hv_S, ((some (hv_n (sh, I, J, R, n))).bind fun n1 => (some (hv_new (sh, I, J, R, n) x)).bind fun s2 => (f n1 s2).bind fun p3 => (x_ob p3 ci (some z)).bind fun a4 => (some (hv_setR p3 a4 k (some n1))).bind F) = F (sh', I', J', R', n + 1 + c)) ∧ AL z n (n + 1 + c) sh I J R sh' I' J' R' ∧ R' z k = some n ∧ (∀ j, j ≠ k → R' z j = R z j) ∧ P sh' R' := by
  obtain ⟨sh1, I1, J1, R1, e1, a1, p1⟩ := hf (fun b => if b = n then some x else sh b) (fun b j => if b = n then 0 else I b j) (fun b j => if b = n then 0 else J b j) (fun b j => if b = n then none else R b j) (if_pos rfl)
  obtain ⟨b0, b1, b2, b3, b4⟩ := a1
  refine ⟨sh1, I1, J1, hv_u R1 z k (some n), fun F => ?_, ⟨by omega, fun a q => (b1 a (by omega)).trans (if_neg (by omega)), fun a j q => ⟨((b2 a j (by omega)).1).trans (if_neg (by omega)), ((b2 a j (by omega)).2).trans (if_neg (by omega))⟩, fun a j q1 q2 => ?_, fun a j q1 q2 => (ev_ua q2).trans ((b4 a j (by omega) (by omega)).trans (if_neg (by omega)))⟩, ev_us, fun j hj => (ev_uk hj).trans ((b4 z j (by omega) (by omega)).trans (if_neg (by omega))), hp _ _ _ _ (fun _ _ _ => rfl) (fun a k q1 q2 => ev_ua (by omega)) p1⟩
  · have e1' : f n (hv_new (sh, I, J, R, n) x) = _ := e1
    have ho : sh1 z = some (ci, 0) := (b1 z (by omega)).trans ((if_neg (by omega)).trans h)
    rw [ev_b, ev_b]
    show ((f n (hv_new (sh, I, J, R, n) x)).bind fun p3 => (x_ob p3 ci (some z)).bind fun a4 => (some (hv_setR p3 a4 k (some n))).bind F) = _
    rw [e1', ev_b, ev_ob ho, ev_b, ev_sR, ev_b]
  · by_cases ha : a = n
    · exact ⟨((b2 a j (by omega)).1).trans (if_pos ha), ((b2 a j (by omega)).2).trans (if_pos ha)⟩
    · exact b3 a j (by omega) q2
theorem lp_F {y : Nat} : lp y (y + 3) (fun sh R => ly_F sh R y) := fun sh sh' R R' h1 h2 h => by
  obtain ⟨a0, a1, a2, a3, a4⟩ := h
  exact ⟨(h1 _ (by omega) (by omega)).trans a0, (h1 _ (by omega) (by omega)).trans a1, (h1 _ (by omega) (by omega)).trans a2, (h2 _ _ (by omega) (by omega)).trans a3, (h2 _ _ (by omega) (by omega)).trans a4⟩
theorem lp_T {y : Nat} : lp y (y + 3) (fun sh R => ly_T sh R y) := fun sh sh' R R' h1 h2 h => by
  obtain ⟨a0, a1, a2, a3, a4⟩ := h
  exact ⟨(h1 _ (by omega) (by omega)).trans a0, (h1 _ (by omega) (by omega)).trans a1, (h1 _ (by omega) (by omega)).trans a2, (h2 _ _ (by omega) (by omega)).trans a3, (h2 _ _ (by omega) (by omega)).trans a4⟩
theorem lp_S {y : Nat} : lp y (y + 3) (fun sh R => ly_S sh R y) := fun sh sh' R R' h1 h2 h => by
  obtain ⟨a0, a1, a2, a3, a4⟩ := h
  exact ⟨(h1 _ (by omega) (by omega)).trans a0, (h1 _ (by omega) (by omega)).trans a1, (h1 _ (by omega) (by omega)).trans a2, (h2 _ _ (by omega) (by omega)).trans a3, (h2 _ _ (by omega) (by omega)).trans a4⟩
theorem lp_X {y : Nat} : lp y (y + 2) (fun sh R => ly_X sh R y) := fun sh sh' R R' h1 h2 h => by
  obtain ⟨a0, a1, a2⟩ := h
  exact ⟨(h1 _ (by omega) (by omega)).trans a0, (h1 _ (by omega) (by omega)).trans a1, (h2 _ _ (by omega) (by omega)).trans a2⟩
theorem lp_P {y : Nat} : lp y (y + 4) (fun sh R => ly_P sh R y) := fun sh sh' R R' h1 h2 h => by
  obtain ⟨a0, a1, a2, a3, a4, a5, a6⟩ := h
  exact ⟨(h1 _ (by omega) (by omega)).trans a0, (h1 _ (by omega) (by omega)).trans a1, (h1 _ (by omega) (by omega)).trans a2, (h1 _ (by omega) (by omega)).trans a3, (h2 _ _ (by omega) (by omega)).trans a4, (h2 _ _ (by omega) (by omega)).trans a5, (h2 _ _ (by omega) (by omega)).trans a6⟩
theorem lp_K {y : Nat} : lp y (y + 5) (fun sh R => ly_K sh R y) := fun sh sh' R R' h1 h2 h => by
  obtain ⟨a0, a1, a2, a3, a4, a5, a6, a7, a8⟩ := h
  exact ⟨(h1 _ (by omega) (by omega)).trans a0, (h1 _ (by omega) (by omega)).trans a1, (h1 _ (by omega) (by omega)).trans a2, (h1 _ (by omega) (by omega)).trans a3, (h1 _ (by omega) (by omega)).trans a4, (h2 _ _ (by omega) (by omega)).trans a5, (h2 _ _ (by omega) (by omega)).trans a6, (h2 _ _ (by omega) (by omega)).trans a7, (h2 _ _ (by omega) (by omega)).trans a8⟩
theorem lp_Z {y : Nat} : lp y (y + 7) (fun sh R => ly_Z sh R y) := fun sh sh' R R' h1 h2 h => by
  obtain ⟨a0, a1, a2, a3, a4⟩ := h
  exact ⟨(h1 _ (by omega) (by omega)).trans a0, lp_F _ _ _ _ (fun a q1 q2 => h1 _ (by omega) (by omega)) (fun a k q1 q2 => h2 _ _ (by omega) (by omega)) a1, lp_T _ _ _ _ (fun a q1 q2 => h1 _ (by omega) (by omega)) (fun a k q1 q2 => h2 _ _ (by omega) (by omega)) a2, (h2 _ _ (by omega) (by omega)).trans a3, (h2 _ _ (by omega) (by omega)).trans a4⟩
theorem lp_L {y : Nat} : lp y (y + 10) (fun sh R => ly_L sh R y (y + 4) (y + 7)) := fun sh sh' R R' h1 h2 h => by
  obtain ⟨a0, a1, a2, a3, a4, a5, a6, a7⟩ := h
  exact ⟨(h1 _ (by omega) (by omega)).trans a0, lp_F _ _ _ _ (fun a q1 q2 => h1 _ (by omega) (by omega)) (fun a k q1 q2 => h2 _ _ (by omega) (by omega)) a1, lp_T _ _ _ _ (fun a q1 q2 => h1 _ (by omega) (by omega)) (fun a k q1 q2 => h2 _ _ (by omega) (by omega)) a2, lp_T _ _ _ _ (fun a q1 q2 => h1 _ (by omega) (by omega)) (fun a k q1 q2 => h2 _ _ (by omega) (by omega)) a3, (h2 _ _ (by omega) (by omega)).trans a4, (h2 _ _ (by omega) (by omega)).trans a5, (h2 _ _ (by omega) (by omega)).trans a6, a7⟩
/-! the small constructors -/
theorem new_Fo (h : sh z = some (4, 0)) : ∃ sh' I' J' R', f_Fo_init z (sh, I, J, R, z + 1) = some (sh', I', J', R', z + 1 + 2) ∧ AL z (z + 1) (z + 1 + 2) sh I J R sh' I' J' R' ∧ ly_F sh' R' z := by
  obtain ⟨sh', I', J', R', h1, h2, h3, h4⟩ := inL_spec (z := z) [((1000, 25), 0), ((1001, 25), 1)] (z + 1) sh I J R (by omega) h (by decide)
  exact ⟨sh', I', J', R', h1 some, h2, (h2.2.1 z (by omega)).trans h, (h3 0 _ rfl).1, (h3 1 _ rfl).1, (h3 0 _ rfl).2, (h3 1 _ rfl).2⟩
theorem new_TL (h : sh z = some (5, 0)) : ∃ sh' I' J' R', f_TL_init z (sh, I, J, R, z + 1) = some (sh', I', J', R', z + 1 + 2) ∧ AL z (z + 1) (z + 1 + 2) sh I J R sh' I' J' R' ∧ ly_T sh' R' z := by
  obtain ⟨sh', I', J', R', h1, h2, h3, h4⟩ := inL_spec (z := z) [((1000, 25), 0), ((1001, 25), 1)] (z + 1) sh I J R (by omega) h (by decide)
  exact ⟨sh', I', J', R', h1 some, h2, (h2.2.1 z (by omega)).trans h, (h3 0 _ rfl).1, (h3 1 _ rfl).1, (h3 0 _ rfl).2, (h3 1 _ rfl).2⟩
theorem new_St (h : sh z = some (10, 0)) : ∃ sh' I' J' R', f_St_init z (sh, I, J, R, z + 1) = some (sh', I', J', R', z + 1 + 2) ∧ AL z (z + 1) (z + 1 + 2) sh I J R sh' I' J' R' ∧ ly_S sh' R' z := by
  obtain ⟨sh', I', J', R', h1, h2, h3, h4⟩ := inL_spec (z := z) [((1000, 25), 0), ((1000, 8), 1)] (z + 1) sh I J R (by omega) h (by decide)
  exact ⟨sh', I', J', R', h1 some, h2, (h2.2.1 z (by omega)).trans h, (h3 0 _ rfl).1, (h3 1 _ rfl).1, (h3 0 _ rfl).2, (h3 1 _ rfl).2⟩
theorem new_Tx (h : sh z = some (2, 0)) : ∃ sh' I' J' R', f_Tx_init z (sh, I, J, R, z + 1) = some (sh', I', J', R', z + 1 + 1) ∧ AL z (z + 1) (z + 1 + 1) sh I J R sh' I' J' R' ∧ ly_X sh' R' z := by
  obtain ⟨sh', I', J', R', h1, h2, h3, h4⟩ := inL_spec (z := z) [((1000, 20), 0)] (z + 1) sh I J R (by omega) h (by decide)
  exact ⟨sh', I', J', R', h1 some, h2, (h2.2.1 z (by omega)).trans h, (h3 0 _ rfl).1, (h3 0 _ rfl).2⟩
theorem new_Pr (h : sh z = some (8, 0)) : ∃ sh' I' J' R', f_Pr_init z (sh, I, J, R, z + 1) = some (sh', I', J', R', z + 1 + 3) ∧ AL z (z + 1) (z + 1 + 3) sh I J R sh' I' J' R' ∧ ly_P sh' R' z := by
  obtain ⟨sh', I', J', R', h1, h2, h3, h4⟩ := inL_spec (z := z) [((1000, 49), 0), ((1000, 49), 1), ((1000, 49), 2)] (z + 1) sh I J R (by omega) h (by decide)
  exact ⟨sh', I', J', R', h1 some, h2, (h2.2.1 z (by omega)).trans h, (h3 0 _ rfl).1, (h3 1 _ rfl).1, (h3 2 _ rfl).1, (h3 0 _ rfl).2, (h3 1 _ rfl).2, (h3 2 _ rfl).2⟩
theorem new_Ma (h : sh z = some (6, 0)) : ∃ sh' I' J' R', f_Ma_init z (sh, I, J, R, z + 1) = some (sh', I', J', R', z + 1 + 4) ∧ AL z (z + 1) (z + 1 + 4) sh I J R sh' I' J' R' ∧ ly_K sh' R' z := by
  obtain ⟨sh', I', J', R', h1, h2, h3, h4⟩ := inL_spec (z := z) [((1001, 21), 0), ((1000, 505), 1), ((1000, 505), 2), ((1001, 505), 3)] (z + 1) sh I J R (by omega) h (by decide)
  exact ⟨sh', I', J', R', h1 some, h2, (h2.2.1 z (by omega)).trans h, (h3 0 _ rfl).1, (h3 1 _ rfl).1, (h3 2 _ rfl).1, (h3 3 _ rfl).1, (h3 0 _ rfl).2, (h3 1 _ rfl).2, (h3 2 _ rfl).2, (h3 3 _ rfl).2⟩
theorem new_Wr (h : sh z = some (1, 0)) : ∃ sh' I' J' R', f_Wr_init z (sh, I, J, R, z + 1) = some (sh', I', J', R', z + 1 + 0) ∧ AL z (z + 1) (z + 1 + 0) sh I J R sh' I' J' R' ∧ sh' z = some (1, 0) :=
  ⟨sh, I, J, R, rfl, ⟨Nat.le_refl _, fun _ _ => rfl, fun _ _ _ => ⟨rfl, rfl⟩, fun a k q1 q2 => by omega, fun _ _ _ _ => rfl⟩, h⟩
theorem new_Ls (h : sh z = some (3, 0)) : ∃ sh' I' J' R', f_Ls_init z (sh, I, J, R, z + 1) = some (sh', I', J', R', z + 1 + 9) ∧ AL z (z + 1) (z + 1 + 9) sh I J R sh' I' J' R' ∧ ly_L sh' R' z (z + 4) (z + 7) := by
  obtain ⟨sh1, I1, J1, R1, e1, a1, r1, k1, p1⟩ := sub_step (f := f_Fo_init) (ci := 3) (k := 0) (c := 2) (x := (4, 0)) (z := z) (n := z + 1) (I := I) (J := J) (R := R) (by omega) h lp_F (fun sh I J R q => new_Fo q)
  have s1 : sh1 z = some (3, 0) := (a1.2.1 z (by omega)).trans h
  obtain ⟨sh2, I2, J2, R2, e2, a2, r2, k2, p2⟩ := sub_step (f := f_TL_init) (ci := 3) (k := 1) (c := 2) (x := (5, 0)) (z := z) (n := z + 1 + 1 + 2) (I := I1) (J := J1) (R := R1) (by omega) s1 lp_T (fun sh I J R q => new_TL q)
  have s2 : sh2 z = some (3, 0) := (a2.2.1 z (by omega)).trans s1
  obtain ⟨sh3, I3, J3, R3, e3, a3, r3, k3, p3⟩ := sub_step (f := f_TL_init) (ci := 3) (k := 2) (c := 2) (x := (5, 0)) (z := z) (n := z + 1 + 1 + 2 + 1 + 2) (I := I2) (J := J2) (R := R2) (by omega) s2 lp_T (fun sh I J R q => new_TL q)
  have s3 : sh3 z = some (3, 0) := (a3.2.1 z (by omega)).trans s2
  refine ⟨sh3, I3, J3, R3, ?_, AL_trans a1 (AL_trans a2 a3), s3, ?_, ?_, p3, ?_, ?_, r3, Or.inl ⟨rfl, rfl⟩⟩
  · unfold f_Ls_init
    rw [e1, e2, e3]
  · exact lp_AL lp_F a3 (by omega) (by omega) (lp_AL lp_F a2 (by omega) (by omega) p1)
  · exact lp_AL lp_T a3 (by omega) (by omega) p2
  · rw [k3 0 (by omega), k2 0 (by omega)]; exact r1
  · rw [k3 1 (by omega)]; exact r2
theorem new_Si (h : sh z = some (7, 0)) : ∃ sh' I' J' R', f_Si_init z (sh, I, J, R, z + 1) = some (sh', I', J', R', z + 1 + 6) ∧ AL z (z + 1) (z + 1 + 6) sh I J R sh' I' J' R' ∧ ly_Z sh' R' z := by
  obtain ⟨sh1, I1, J1, R1, e1, a1, r1, k1, p1⟩ := sub_step (f := f_Fo_init) (ci := 7) (k := 0) (c := 2) (x := (4, 0)) (z := z) (n := z + 1) (I := I) (J := J) (R := R) (by omega) h lp_F (fun sh I J R q => new_Fo q)
  have s1 : sh1 z = some (7, 0) := (a1.2.1 z (by omega)).trans h
  obtain ⟨sh2, I2, J2, R2, e2, a2, r2, k2, p2⟩ := sub_step (f := f_TL_init) (ci := 7) (k := 1) (c := 2) (x := (5, 0)) (z := z) (n := z + 1 + 1 + 2) (I := I1) (J := J1) (R := R1) (by omega) s1 lp_T (fun sh I J R q => new_TL q)
  have s2 : sh2 z = some (7, 0) := (a2.2.1 z (by omega)).trans s1
  refine ⟨sh2, I2, J2, R2, ?_, AL_trans a1 a2, s2, lp_AL lp_F a2 (by omega) (by omega) p1, p2, (k2 0 (by omega)).trans r1, r2⟩
  unfold f_Si_init
  rw [e1, e2]
end AL
