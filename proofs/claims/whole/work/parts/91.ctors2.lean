/-! BOTH SIDES ARE MADE -/
def Q0 : Qs := ((0, fun _ => 0), (0, fun _ => 0), none, ([], 0, 0, 0), 0, -1, -1)
def lmN (x : Int32) : Nat := 3 + x.toBitVec.toNat % 16
theorem lm_b (x : Int32) : 3 ≤ lmN x ∧ lmN x ≤ 18 := by
  unfold lmN
  have := Nat.mod_lt x.toBitVec.toNat (show 16 > 0 by decide)
  omega
theorem lm_e (x : Int32) : (3 : Int32) + (x &&& (15 : Int32)) = nI (lmN x) := by
  have e : x &&& (15 : Int32) = nI (x.toBitVec.toNat % 16) := by
    apply Int32.toBitVec_inj.mp
    apply BitVec.eq_of_toNat_eq
    show (x.toBitVec &&& 15#32).toNat = (BitVec.ofNat 32 (x.toBitVec.toNat % 16)).toNat
    rw [BitVec.toNat_and, show (15#32).toNat = 2 ^ 4 - 1 from rfl, Nat.and_two_pow_sub_one_eq_mod, BitVec.toNat_ofNat]
    have := Nat.mod_lt x.toBitVec.toNat (show 16 > 0 by decide)
    omega
  rw [e, li_3, nI_add]
  rfl
theorem AU_0 {lim : Nat} : AU lim 0 Q0 := ⟨⟨Nat.zero_le _, fun s hs => by cases hs⟩, fun x s c j hx => by simp [Q0] at hx, Nat.le_refl _⟩
section C2
variable {sh : Nat → Option (Nat × Nat)} {I : Nat → Nat → Int32} {J : Nat → Nat → Int64} {R : Nat → Nat → Option Nat} {b g : Nat} {x : Int32}
theorem sub_stepA {n z : Nat} {f : Nat → hv_S → Option hv_S} {ci k c : Nat} {x : Nat × Nat} {P : (Nat → Option (Nat × Nat)) → (Nat → Nat → Option Nat) → Prop} (hz : z < n) (h : sh z = some (ci, 0)) (hp : lp n (n + 1 + c) P) (hf : ∀ sh I J R, sh n = some x → ∃ sh' I' J' R', f n (sh, I, J, R, n + 1) = some (sh', I', J', R', n + 1 + c) ∧ AL n (n + 1) (n + 1 + c) sh I J R sh' I' J' R' ∧ P sh' R') :
    ∃ sh' I' J' R', (∀ F : Nat → hv_S → Option hv_S, ((some (hv_n (sh, I, J, R, n))).bind fun n1 => (some (hv_new (sh, I, J, R, n) x)).bind fun s2 => (f n1 s2).bind fun p3 => (x_ob p3 ci (some z)).bind fun a4 => (some (hv_setR p3 a4 k (some n1))).bind fun s5 => F a4 s5) = F z (sh', I', J', R', n + 1 + c)) ∧ AL z n (n + 1 + c) sh I J R sh' I' J' R' ∧ R' z k = some n ∧ (∀ j, j ≠ k → R' z j = R z j) ∧ P sh' R' := by
  obtain ⟨sh1, I1, J1, R1, e1, a1, p1⟩ := sub_new (sh := sh) (I := I) (J := J) (R := R) hf
  refine ⟨sh1, I1, J1, hv_u R1 z k (some n), fun F => ?_, AL_u a1, ev_us, fun j hj => (ev_uk hj).trans (a1.2.2.2.2 z j hz (by omega)), hp _ _ _ _ (fun _ _ _ => rfl) (fun a k q1 q2 => ev_ua (by omega)) p1⟩
  have ho : sh1 z = some (ci, 0) := (a1.2.1 z hz).trans h
  rw [ev_b, ev_b]
  show ((f n (hv_new (sh, I, J, R, n) x)).bind fun p3 => (x_ob p3 ci (some z)).bind fun a4 => (some (hv_setR p3 a4 k (some n))).bind fun s5 => F a4 s5) = _
  rw [e1, ev_b, ev_ob ho, ev_b, ev_sR, ev_b]
theorem new_C (h : sh b = some (0, 0)) (hI : ∀ k, I b k = 0) : ∃ sh' I' J' R', f_C_init b x (sh, I, J, R, b + 1) = some (sh', I', J', R', b + 46 + 3 * lmN x) ∧ CL sh' I' J' R' b (lmN x) Q0 ∧ (∀ a, a < b → sh' a = sh a ∧ ∀ k, I' a k = I a k ∧ J' a k = J a k ∧ R' a k = R a k) := by
  obtain ⟨hl3, hl18⟩ := lm_b x
  generalize hlm : lmN x = lim at *
  obtain ⟨sh1, I1, J1, R1, e1, a1, p1, k1⟩ := inL_spec (z := b) [((1002, 24), 0)] (b + 1) sh I J R (by omega) h (by decide)
  have s1 : sh1 b = some (0, 0) := (a1.2.1 b (by omega)).trans h
  have a1' : AL b (b + 1) (b + 2) sh I J R sh1 I1 J1 R1 := a1
  obtain ⟨sh2, I2, J2, R2, e2, a2, r2, k2, p2⟩ := sub_step (f := f_Wr_init) (ci := 0) (k := 2) (c := 0) (x := (1, 0)) (z := b) (n := b + 2) (I := I1) (J := J1) (R := R1) (P := fun sh R => sh (b + 2) = some (1, 0)) (by omega) s1 (fun sh sh' R R' g1 g2 g3 => (g1 _ (by omega) (by omega)).trans g3) (fun sh I J R q => new_Wr q)
  have s2 : sh2 b = some (0, 0) := (a2.2.1 b (by omega)).trans s1
  obtain ⟨sh3, I3, J3, R3, e3, a3, r3, k3, p3⟩ := sub_step (f := f_Tx_init) (ci := 0) (k := 3) (c := 1) (x := (2, 0)) (z := b) (n := b + 2 + 1 + 0) (I := I2) (J := J2) (R := R2) (by omega) s2 lp_X (fun sh I J R q => new_Tx q)
  have s3 : sh3 b = some (0, 0) := (a3.2.1 b (by omega)).trans s2
  obtain ⟨sh4, I4, J4, R4, e4, a4, r4, k4, p4⟩ := sub_step (f := f_Ls_init) (ci := 0) (k := 4) (c := 9) (x := (3, 0)) (z := b) (n := b + 2 + 1 + 0 + 1 + 1) (I := I3) (J := J3) (R := R3) (by omega) s3 lp_L (fun sh I J R q => new_Ls q)
  have s4 : sh4 b = some (0, 0) := (a4.2.1 b (by omega)).trans s3
  obtain ⟨sh5, I5, J5, R5, e5, a5, r5, k5, p5⟩ := sub_step (f := f_Ma_init) (ci := 0) (k := 5) (c := 4) (x := (6, 0)) (z := b) (n := b + 2 + 1 + 0 + 1 + 1 + 1 + 9) (I := I4) (J := J4) (R := R4) (by omega) s4 lp_K (fun sh I J R q => new_Ma q)
  have s5 : sh5 b = some (0, 0) := (a5.2.1 b (by omega)).trans s4
  obtain ⟨sh6, I6, J6, R6, e6, a6, r6, k6, p6⟩ := sub_step (f := f_Si_init) (ci := 0) (k := 6) (c := 6) (x := (7, 0)) (z := b) (n := b + 2 + 1 + 0 + 1 + 1 + 1 + 9 + 1 + 4) (I := I5) (J := J5) (R := R5) (by omega) s5 lp_Z (fun sh I J R q => new_Si q)
  have s6 : sh6 b = some (0, 0) := (a6.2.1 b (by omega)).trans s5
  obtain ⟨sh7, I7, J7, R7, e7, a7, r7, k7, p7⟩ := sub_step (f := f_Pr_init) (ci := 0) (k := 8) (c := 3) (x := (8, 0)) (z := b) (n := b + 2 + 1 + 0 + 1 + 1 + 1 + 9 + 1 + 4 + 1 + 6) (I := I6) (J := J6) (R := R6) (by omega) s6 lp_P (fun sh I J R q => new_Pr q)
  have s7 : sh7 b = some (0, 0) := (a7.2.1 b (by omega)).trans s6
  obtain ⟨sh8, I8, J8, R8, e8, a8, r8, k8, p8⟩ := sub_stepA (f := f_Pr_init) (ci := 0) (k := 9) (c := 3) (x := (8, 0)) (z := b) (n := b + 2 + 1 + 0 + 1 + 1 + 1 + 9 + 1 + 4 + 1 + 6 + 1 + 3) (I := I7) (J := J7) (R := R7) (by omega) s7 lp_P (fun sh I J R q => new_Pr q)
  have s8 : sh8 b = some (0, 0) := (a8.2.1 b (by omega)).trans s7
  obtain ⟨sh9, I9, J9, R9, e9, a9, r9, k9, p9⟩ := sub_step (f := fun z s => f_Au_init z (nI lim) s) (ci := 0) (k := 7) (c := 10 + 3 * lim) (x := (9, 0)) (z := b) (n := b + 2 + 1 + 0 + 1 + 1 + 1 + 9 + 1 + 4 + 1 + 6 + 1 + 3 + 1 + 3) (I := hv_u (hv_u I8 b 12 (-1)) b 13 (-1)) (J := hv_u J8 b 11 0) (R := R8) (P := fun sh R => au_L sh R (b + 35) lim (fun k => b + 35 + 11 + 3 * k) (b + 35 + 7)) (by omega) s8 (fun sh sh' R R' g1 g2 g3 => lp_A (A := b + 35) (lim := lim) sh sh' R R' (fun a q1 q2 => g1 a (by omega) (by omega)) (fun a k q1 q2 => g2 a k (by omega) (by omega)) g3) (fun sh I J R q => new_Au (A := b + 35) (by omega) hl18 q)
  have s9 : sh9 b = some (0, 0) := (a9.2.1 b (by omega)).trans s8
  have a18 : AL b (b + 1) (b + 35) sh I J R sh8 I8 J8 R8 := AL_trans a1' (AL_trans a2 (AL_trans a3 (AL_trans a4 (AL_trans a5 (AL_trans a6 (AL_trans a7 a8))))))
  have a9' : AL b (b + 35) (b + 46 + 3 * lim) sh8 (hv_u (hv_u I8 b 12 (-1)) b 13 (-1)) (hv_u J8 b 11 0) R8 sh9 I9 J9 R9 := by
    have hn : b + 2 + 1 + 0 + 1 + 1 + 1 + 9 + 1 + 4 + 1 + 6 + 1 + 3 + 1 + 3 + 1 + (10 + 3 * lim) = b + 46 + 3 * lim := by omega
    rw [hn] at a9; exact a9
  -- places of integers
  have zI : ∀ a k, b < a → a < b + 46 + 3 * lim → I9 a k = 0 := fun a k q1 q2 => by
    by_cases ha : a < b + 35
    · rw [(a9'.2.2.1 a k ha).1, ev_ua (by omega), ev_ua (by omega)]; exact (a18.2.2.2.1 a k (by omega) ha).1
    · exact (a9'.2.2.2.1 a k (by omega) q2).1
  have bI' : ∀ k, k ≠ 12 → k ≠ 13 → I9 b k = 0 := fun k q1 q2 => by
    rw [(a9'.2.2.1 b k (by omega)).1, ev_uk q2, ev_uk q1, (a18.2.2.1 b k (by omega)).1]; exact hI k
  refine ⟨sh9, I9, J9, R9, ?_, ⟨b + 27, b + 31, ?_, ?_⟩, fun a q => ⟨?_, fun k => ⟨?_, ?_, ?_⟩⟩⟩
  · have e1' : ∀ F : hv_S → Option hv_S, ((some (hv_n (sh, I, J, R, b + 1))).bind fun n1 => (some (hv_new (sh, I, J, R, b + 1) (1002, 24))).bind fun s2 => (x_ob s2 0 (some b)).bind fun a3 => (some (hv_setR s2 a3 0 (some n1))).bind fun s4 => F s4) = F (sh1, I1, J1, R1, b + 2) := fun F => e1 F
    have hn : b + 2 + 1 + 0 + 1 + 1 + 1 + 9 + 1 + 4 + 1 + 6 + 1 + 3 + 1 + 3 + 1 + (10 + 3 * lim) = b + 46 + 3 * lim := by omega
    rw [hn] at e9
    unfold f_C_init
    rw [e1', e2, e3, e4, e5, e6, e7, e8, ev_sJ, ev_b, ev_sI, ev_b, ev_sI, ev_b, lm_e, hlm, e9]
  · have m : ∀ {lo hi : Nat} {P : (Nat → Option (Nat × Nat)) → (Nat → Nat → Option Nat) → Prop}, lp lo hi P → hi ≤ b + 35 → b < lo → P sh8 R8 → P sh9 R9 := fun hp h1 h2 h3 => lp_AL hp a9' h1 (Or.inl h2) h3
    have c1 : R9 b 0 = some (b + 1) := by
      rw [k9 0 (by omega), k8 0 (by omega), k7 0 (by omega), k6 0 (by omega), k5 0 (by omega), k4 0 (by omega), k3 0 (by omega), k2 0 (by omega)]; exact (p1 0 _ rfl).2
    have c3 : R9 b 2 = some (b + 2) := by
      rw [k9 2 (by omega), k8 2 (by omega), k7 2 (by omega), k6 2 (by omega), k5 2 (by omega), k4 2 (by omega), k3 2 (by omega)]; exact r2
    have c5 : R9 b 3 = some (b + 3) := by
      rw [k9 3 (by omega), k8 3 (by omega), k7 3 (by omega), k6 3 (by omega), k5 3 (by omega), k4 3 (by omega)]; exact r3
    have c7 : R9 b 4 = some (b + 5) := by
      rw [k9 4 (by omega), k8 4 (by omega), k7 4 (by omega), k6 4 (by omega), k5 4 (by omega)]; exact r4
    have c9 : R9 b 5 = some (b + 15) := by
      rw [k9 5 (by omega), k8 5 (by omega), k7 5 (by omega), k6 5 (by omega)]; exact r5
    have c11 : R9 b 6 = some (b + 20) := by
      rw [k9 6 (by omega), k8 6 (by omega), k7 6 (by omega)]; exact r6
    have c14 : R9 b 8 = some (b + 27) := by
      rw [k9 8 (by omega), k8 8 (by omega)]; exact r7
    have c15 : R9 b 9 = some (b + 31) := by
      rw [k9 9 (by omega)]; exact r8
    have f1 : sh9 (b + 1) = some (1002, 24) := (a9'.2.1 _ (by omega)).trans ((a8.2.1 _ (by omega)).trans ((a7.2.1 _ (by omega)).trans ((a6.2.1 _ (by omega)).trans ((a5.2.1 _ (by omega)).trans ((a4.2.1 _ (by omega)).trans ((a3.2.1 _ (by omega)).trans ((a2.2.1 _ (by omega)).trans (p1 0 _ rfl).1)))))))
    have f2 : sh9 (b + 2) = some (1, 0) := (a9'.2.1 _ (by omega)).trans ((a8.2.1 _ (by omega)).trans ((a7.2.1 _ (by omega)).trans ((a6.2.1 _ (by omega)).trans ((a5.2.1 _ (by omega)).trans ((a4.2.1 _ (by omega)).trans ((a3.2.1 _ (by omega)).trans p2))))))
    have fX : ly_X sh9 R9 (b + 3) := lp_AL lp_X a9' (by omega) (by omega) (lp_AL lp_X a8 (by omega) (by omega) (lp_AL lp_X a7 (by omega) (by omega) (lp_AL lp_X a6 (by omega) (by omega) (lp_AL lp_X a5 (by omega) (by omega) (lp_AL lp_X a4 (by omega) (by omega) p3)))))
    have fL : ly_L sh9 R9 (b + 5) (b + 5 + 4) (b + 5 + 7) := lp_AL lp_L a9' (by omega) (by omega) (lp_AL lp_L a8 (by omega) (by omega) (lp_AL lp_L a7 (by omega) (by omega) (lp_AL lp_L a6 (by omega) (by omega) (lp_AL lp_L a5 (by omega) (by omega) p4))))
    have fK : ly_K sh9 R9 (b + 15) := lp_AL lp_K a9' (by omega) (by omega) (lp_AL lp_K a8 (by omega) (by omega) (lp_AL lp_K a7 (by omega) (by omega) (lp_AL lp_K a6 (by omega) (by omega) p5)))
    have fZ : ly_Z sh9 R9 (b + 20) := lp_AL lp_Z a9' (by omega) (by omega) (lp_AL lp_Z a8 (by omega) (by omega) (lp_AL lp_Z a7 (by omega) (by omega) p6))
    have fP1 : ly_P sh9 R9 (b + 27) := lp_AL lp_P a9' (by omega) (by omega) (lp_AL lp_P a8 (by omega) (by omega) p7)
    have fP2 : ly_P sh9 R9 (b + 31) := lp_AL lp_P a9' (by omega) (by omega) p8
    exact ⟨s9, c1, f1, c3, f2, c5, fX, c7, ⟨_, _, fL⟩, c9, fK, c11, fZ, r9, c14, c15, fP1, fP2, Or.inl ⟨rfl, rfl⟩⟩
  · refine ⟨bI' 1 (by omega) (by omega), Nat.zero_le _, fun k hk => absurd hk (Nat.not_lt_zero _), ⟨zI _ _ (by omega) (by omega), Nat.zero_le _, fun k hk => absurd hk (Nat.not_lt_zero _)⟩, zI _ _ (by omega) (by omega), ⟨_, _, p9, zI _ _ (by omega) (by omega), zI _ _ (by omega) (by omega), zI _ _ (by omega) (by omega), zI _ _ (by omega) (by omega), fun k s hs => by simp [Q0] at hs⟩, ?_, ?_, ?_⟩
    · rw [(a9'.2.2.1 b 11 (by omega)).2, ev_us]; rfl
    · rw [(a9'.2.2.1 b 12 (by omega)).1, ev_uk (by omega), ev_us]; rfl
    · rw [(a9'.2.2.1 b 13 (by omega)).1, ev_us]; rfl
  · exact (a9'.2.1 a (by omega)).trans (a18.2.1 a (by omega))
  · rw [(a9'.2.2.1 a k (by omega)).1, ev_ua (by omega), ev_ua (by omega)]; exact (a18.2.2.1 a k (by omega)).1
  · rw [(a9'.2.2.1 a k (by omega)).2, ev_ua (by omega)]; exact (a18.2.2.1 a k (by omega)).2
  · exact (a9'.2.2.2.2 a k (by omega) (by omega)).trans (a18.2.2.2.2 a k (by omega) (by omega))
end C2
