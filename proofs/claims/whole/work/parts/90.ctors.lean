/-! THE CLASS IS MADE -/
section CT
variable {sh sh' sh2 : Nat → Option (Nat × Nat)} {I I' I2 : Nat → Nat → Int32} {J J' J2 : Nat → Nat → Int64} {R R' R2 : Nat → Nat → Option Nat} {n n' n2 z A lim b : Nat}
theorem sub_new {f : Nat → hv_S → Option hv_S} {c : Nat} {x : Nat × Nat} {P : (Nat → Option (Nat × Nat)) → (Nat → Nat → Option Nat) → Prop} (hf : ∀ sh I J R, sh n = some x → ∃ sh' I' J' R', f n (sh, I, J, R, n + 1) = some (sh', I', J', R', n + 1 + c) ∧ AL n (n + 1) (n + 1 + c) sh I J R sh' I' J' R' ∧ P sh' R') :
    ∃ sh' I' J' R', f n (hv_new (sh, I, J, R, n) x) = some (sh', I', J', R', n + 1 + c) ∧ AL n n (n + 1 + c) sh I J R sh' I' J' R' ∧ P sh' R' := by
  obtain ⟨sh1, I1, J1, R1, e1, a1, p1⟩ := hf (fun b => if b = n then some x else sh b) (fun b j => if b = n then 0 else I b j) (fun b j => if b = n then 0 else J b j) (fun b j => if b = n then none else R b j) (if_pos rfl)
  obtain ⟨b0, b1, b2, b3, b4⟩ := a1
  refine ⟨sh1, I1, J1, R1, e1, ⟨by omega, fun a q => (b1 a (by omega)).trans (if_neg (by omega)), fun a j q => ⟨((b2 a j (by omega)).1).trans (if_neg (by omega)), ((b2 a j (by omega)).2).trans (if_neg (by omega))⟩, fun a j q1 q2 => ?_, fun a j q1 q2 => (b4 a j (by omega) (by omega)).trans (if_neg (by omega))⟩, p1⟩
  by_cases ha : a = n
  · exact ⟨((b2 a j (by omega)).1).trans (if_pos ha), ((b2 a j (by omega)).2).trans (if_pos ha)⟩
  · exact b3 a j (by omega) q2
theorem AL_u {k : Nat} {v : Option Nat} (h : AL n n n' sh I J R sh' I' J' R') : AL z n n' sh I J R sh' I' J' (hv_u R' z k v) :=
  ⟨h.1, h.2.1, h.2.2.1, h.2.2.2.1, fun a j q1 q2 => (ev_ua q2).trans (h.2.2.2.2 a j q1 (by omega))⟩
theorem new_Au51 (hlim : lim ≤ 19) : ∀ (m N i : Nat) (sh : Nat → Option (Nat × Nat)) (I : Nat → Nat → Int32) (J : Nat → Nat → Int64) (R : Nat → Nat → Option Nat), m < N → i + m = lim → sh A = some (9, 0) → R A 2 = some (A + 10) → sh (A + 10) = some (1020, lim) →
    ∃ sh' I' J' R', L_Au_init_51 N (some A) (nI i) (sh, I, J, R, A + 11 + 3 * i) = some (sh', I', J', R', A + 11 + 3 * lim) ∧ AL (A + 10) (A + 11 + 3 * i) (A + 11 + 3 * lim) sh I J R sh' I' J' R' ∧ (∀ k, i ≤ k → k < lim → R' (A + 10) k = some (A + 11 + 3 * k) ∧ ly_S sh' R' (A + 11 + 3 * k)) ∧ (∀ k, k < i → R' (A + 10) k = R (A + 10) k)
  | m, 0, _, _, _, _, _, h, _, _, _, _ => by omega
  | 0, N + 1, i, sh, I, J, R, hN, hm, h0, h2, h10 => by
    have hi : i = lim := by omega
    subst hi
    rw [L_Au_init_51, ev_ob h0, ev_b, ev_R, h2, ev_ar20 h10, ev_b, if_pos (by rw [nI_leI (by omega) (by omega)]; exact Nat.le_refl _)]
    exact ⟨sh, I, J, R, rfl, ⟨Nat.le_refl _, fun _ _ => rfl, fun _ _ _ => ⟨rfl, rfl⟩, fun a k q1 q2 => by omega, fun _ _ _ _ => rfl⟩, fun k q1 q2 => by omega, fun _ _ => rfl⟩
  | m + 1, N + 1, i, sh, I, J, R, hN, hm, h0, h2, h10 => by
    obtain ⟨sh1, I1, J1, R1, e1, a1, p1⟩ := sub_new (f := f_St_init) (c := 2) (x := (10, 0)) (n := A + 11 + 3 * i) (sh := sh) (I := I) (J := J) (R := R) (P := fun sh R => ly_S sh R (A + 11 + 3 * i)) (fun sh I J R q => new_St q)
    have g10 : sh1 (A + 10) = some (1020, lim) := (a1.2.1 _ (by omega)).trans h10
    have g0 : sh1 A = some (9, 0) := (a1.2.1 _ (by omega)).trans h0
    have g2 : (hv_u R1 (A + 10) i (some (A + 11 + 3 * i))) A 2 = some (A + 10) := (ev_ua (by omega)).trans ((a1.2.2.2.2 _ _ (by omega) (by omega)).trans h2)
    have a2 : AL (A + 10) (A + 11 + 3 * i) (A + 11 + 3 * i + 1 + 2) sh I J R sh1 I1 J1 (hv_u R1 (A + 10) i (some (A + 11 + 3 * i))) := AL_u a1
    have hn : A + 11 + 3 * i + 1 + 2 = A + 11 + 3 * (i + 1) := by omega
    obtain ⟨sh3, I3, J3, R3, e3, a3, p3, k3⟩ := new_Au51 hlim m N (i + 1) sh1 I1 J1 (hv_u R1 (A + 10) i (some (A + 11 + 3 * i))) (by omega) (by omega) g0 g2 g10
    rw [hn] at a2 e1
    have p2 : ly_S sh1 (hv_u R1 (A + 10) i (some (A + 11 + 3 * i))) (A + 11 + 3 * i) := lp_S _ _ _ _ (fun _ _ _ => rfl) (fun a k q1 q2 => ev_ua (by omega)) p1
    refine ⟨sh3, I3, J3, R3, ?_, AL_trans a2 a3, fun k q1 q2 => ?_, fun k q => ?_⟩
    · rw [L_Au_init_51, ev_ob h0, ev_b, ev_R, h2, ev_ar20 h10, ev_b, if_neg (by rw [nI_leI (by omega) (by omega)]; omega), ev_b, ev_b]
      show ((f_St_init (A + 11 + 3 * i) (hv_new (sh, I, J, R, A + 11 + 3 * i) (10, 0))).bind _) = _
      rw [e1, ev_b, ev_ar20 g10, ev_b, ev_ix (by omega) (by omega), ev_b]
      show ((x_ob (sh1, I1, J1, R1, A + 11 + 3 * (i + 1)) 10 (some (A + 11 + 3 * i))).bind _) = _
      rw [ev_ob p1.1, ev_b, ev_sR, ev_b, nI_1]
      exact e3
    · by_cases hk : k = i
      · subst hk
        refine ⟨(k3 k (by omega)).trans ev_us, lp_AL lp_S a3 (by omega) (by omega) p2⟩
      · exact p3 k (by omega) q2
    · exact (k3 k (by omega)).trans ((ev_uk (by omega)).trans (a1.2.2.2.2 _ _ (by omega) (by omega)))
theorem lp_A : lp A (A + 11 + 3 * lim) (fun sh R => au_L sh R A lim (fun k => A + 11 + 3 * k) (A + 7)) := fun sh sh' R R' h1 h2 h => by
  obtain ⟨l0, lF, lT, l10, r0, r1, r2, r3, rr, o1, o2, o3, o4, o5⟩ := h
  refine ⟨(h1 _ (by omega) (by omega)).trans l0, lp_F _ _ _ _ (fun a q1 q2 => h1 _ (by omega) (by omega)) (fun a k q1 q2 => h2 _ _ (by omega) (by omega)) lF, lp_T _ _ _ _ (fun a q1 q2 => h1 _ (by omega) (by omega)) (fun a k q1 q2 => h2 _ _ (by omega) (by omega)) lT, (h1 _ (by omega) (by omega)).trans l10, (h2 _ _ (by omega) (by omega)).trans r0, (h2 _ _ (by omega) (by omega)).trans r1, (h2 _ _ (by omega) (by omega)).trans r2, (h2 _ _ (by omega) (by omega)).trans r3, fun k hk => (h2 _ _ (by omega) (by omega)).trans (rr k hk), o1, o2, o3, o4, fun a ha => ?_⟩
  have hg := sp_ge ha
  exact lp_S _ _ _ _ (fun a q1 q2 => h1 _ (by omega) (by omega)) (fun a k q1 q2 => h2 _ _ (by omega) (by omega)) (o5 a ha)
theorem new_Au (h1 : 1 ≤ lim) (hlim : lim ≤ 18) (h : sh A = some (9, 0)) : ∃ sh' I' J' R', f_Au_init A (nI lim) (sh, I, J, R, A + 1) = some (sh', I', J', R', A + 1 + (10 + 3 * lim)) ∧ AL A (A + 1) (A + 1 + (10 + 3 * lim)) sh I J R sh' I' J' R' ∧ au_L sh' R' A lim (fun k => A + 11 + 3 * k) (A + 7) := by
  obtain ⟨sh1, I1, J1, R1, e1, a1, r1, k1, p1⟩ := sub_step (f := f_Fo_init) (ci := 9) (k := 0) (c := 2) (x := (4, 0)) (z := A) (n := A + 1) (I := I) (J := J) (R := R) (by omega) h lp_F (fun sh I J R q => new_Fo q)
  have s1 : sh1 A = some (9, 0) := (a1.2.1 A (by omega)).trans h
  obtain ⟨sh2, I2, J2, R2, e2, a2, r2, k2, p2⟩ := sub_step (f := f_TL_init) (ci := 9) (k := 1) (c := 2) (x := (5, 0)) (z := A) (n := A + 1 + 1 + 2) (I := I1) (J := J1) (R := R1) (by omega) s1 lp_T (fun sh I J R q => new_TL q)
  have s2 : sh2 A = some (9, 0) := (a2.2.1 A (by omega)).trans s1
  obtain ⟨sh3, I3, J3, R3, e3, a3, r3, k3, p3⟩ := sub_step (f := f_St_init) (ci := 9) (k := 3) (c := 2) (x := (10, 0)) (z := A) (n := A + 1 + 1 + 2 + 1 + 2) (I := I2) (J := J2) (R := R2) (by omega) s2 lp_S (fun sh I J R q => new_St q)
  have s3 : sh3 A = some (9, 0) := (a3.2.1 A (by omega)).trans s2
  obtain ⟨sh4, I4, J4, R4, e4, a4, p4, k4⟩ := inL_spec (z := A) [((1020, lim), 2)] (A + 1 + 1 + 2 + 1 + 2 + 1 + 2) sh3 I3 J3 R3 (by omega) s3 (by simp)
  have s4 : sh4 A = some (9, 0) := (a4.2.1 A (by omega)).trans s3
  have g10 : sh4 (A + 10) = some (1020, lim) := (p4 0 _ rfl).1
  have g2 : R4 A 2 = some (A + 10) := (p4 0 _ rfl).2
  have hk4 : ∀ k, k ≠ 2 → R4 A k = R3 A k := fun k hk => k4 k (by simpa using hk)
  obtain ⟨sh5, I5, J5, R5, e5, a5, p5, k5⟩ := new_Au51 (A := A) (lim := lim) (by omega) lim 19 0 sh4 I4 J4 R4 (by omega) (by omega) s4 g2 g10
  have a04 : AL A (A + 1) (A + 11) sh I J R sh4 I4 J4 R4 := AL_trans a1 (AL_trans a2 (AL_trans a3 a4))
  have a5' : AL (A + 10) (A + 11) (A + 11 + 3 * lim) sh4 I4 J4 R4 sh5 I5 J5 R5 := a5
  have hA5 : ∀ k, R5 A k = R4 A k := fun k => a5'.2.2.2.2 A k (by omega) (by omega)
  have hE : A + 1 + (10 + 3 * lim) = A + 11 + 3 * lim := by omega
  rw [hE]
  have hxl : x_len (if nI lim < 1 then 1 else nI lim) = some lim := by
    rw [if_neg (by rw [li_1, nI_ltI (by omega) (by omega)]; omega)]
    unfold x_len
    rw [nI_clamp (by omega), if_neg]
    intro hc
    rcases hc with hc | hc
    · rw [li_0, nI_ltI (by omega) (by omega)] at hc; omega
    · omega
  refine ⟨sh5, I5, J5, R5, ?_, ?_, ?_⟩
  · have e4' := e4 (fun s20 => (L_Au_init_51 19 (some A) 0 s20).bind fun e30 => some e30)
    have e5' : L_Au_init_51 19 (some A) 0 (sh4, I4, J4, R4, A + 1 + 1 + 2 + 1 + 2 + 1 + 2 + [((1020, lim), 2)].length) = some (sh5, I5, J5, R5, A + 11 + 3 * lim) := e5
    have h6 : ∀ (X : hv_S → Option hv_S), inL 9 A [((1020, lim), 2)] X (sh3, I3, J3, R3, A + 1 + 1 + 2 + 1 + 2 + 1 + 2) = ((some (hv_n (sh3, I3, J3, R3, A + 1 + 1 + 2 + 1 + 2 + 1 + 2))).bind fun n16 => (some (hv_new (sh3, I3, J3, R3, A + 1 + 1 + 2 + 1 + 2 + 1 + 2) (1020, lim))).bind fun s17 => (x_ob s17 9 (some A)).bind fun a19 => (some (hv_setR s17 a19 2 (some n16))).bind X) := fun X => rfl
    rw [h6, e5', ev_b] at e4'
    unfold f_Au_init
    rw [e1, e2, e3, hxl, ev_b]
    exact e4'
  · obtain ⟨b0, b1, b2, b3, b4⟩ := a5'
    obtain ⟨d0, d1, d2, d3, d4⟩ := a04
    refine ⟨by omega, fun a q => (b1 a (by omega)).trans (d1 a q), fun a j q => ⟨((b2 a j (by omega)).1).trans (d2 a j q).1, ((b2 a j (by omega)).2).trans (d2 a j q).2⟩, fun a j q1 q2 => ?_, fun a j q1 q2 => (b4 a j (by omega) (by omega)).trans (d4 a j q1 q2)⟩
    by_cases ha : a < A + 11
    · exact ⟨((b2 a j ha).1).trans (d3 a j q1 ha).1, ((b2 a j ha).2).trans (d3 a j q1 ha).2⟩
    · exact b3 a j (by omega) q2
  · have hF : ly_F sh5 R5 (A + 1) := lp_AL lp_F a5' (by omega) (by omega) (lp_AL lp_F a4 (by omega) (by omega) (lp_AL lp_F a3 (by omega) (by omega) (lp_AL lp_F a2 (by omega) (by omega) p1)))
    have hT : ly_T sh5 R5 (A + 4) := lp_AL lp_T a5' (by omega) (by omega) (lp_AL lp_T a4 (by omega) (by omega) (lp_AL lp_T a3 (by omega) (by omega) p2))
    have hS : ly_S sh5 R5 (A + 7) := lp_AL lp_S a5' (by omega) (by omega) (lp_AL lp_S a4 (by omega) (by omega) p3)
    refine ⟨(a5'.2.1 A (by omega)).trans s4, hF, hT, (a5'.2.1 _ (by omega)).trans g10, ?_, ?_, ?_, ?_, fun k hk => (p5 k (Nat.zero_le _) hk).1, Or.inl rfl, fun k hk => Or.inr ⟨k, hk, rfl⟩, fun k hk => by show A + 11 + 3 * k ≠ A + 7; omega, fun j k hj hk he => by have he : A + 11 + 3 * j = A + 11 + 3 * k := he; omega, fun a ha => ?_⟩
    · rw [hA5, hk4 0 (by omega), k3 0 (by omega), k2 0 (by omega)]; exact r1
    · rw [hA5, hk4 1 (by omega), k3 1 (by omega)]; exact r2
    · rw [hA5]; exact g2
    · rw [hA5, hk4 3 (by omega)]; exact r3
    · rcases ha with ha | ⟨i, hi, ha⟩
      · subst ha; exact hS
      · subst ha; exact (p5 i (Nat.zero_le _) hi).2
end CT
