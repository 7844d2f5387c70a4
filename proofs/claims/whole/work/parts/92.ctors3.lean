/-! THE REFERENCE IS MADE -/
def L22 : List ((Nat × Nat) × Nat) := [((1000, 24), 3), ((1000, 20), 5), ((1000, 64), 7), ((1000, 64), 8), ((1000, 64), 9), ((1000, 64), 11), ((1000, 64), 12), ((1000, 64), 13), ((1000, 64), 17), ((1000, 600), 19), ((1000, 600), 20), ((1000, 4800), 21), ((1000, 8), 22), ((1000, 2), 23), ((1000, 128), 24), ((1000, 1024), 25), ((1003, 1344), 26), ((1000, 19), 30), ((1000, 1216), 31), ((1003, 19), 32), ((1000, 152), 33), ((1000, 64), 35)]
def L5 : List ((Nat × Nat) × Nat) := [((1000, 8), 40), ((1000, 4), 41), ((1000, 4), 42), ((1000, 4), 43), ((1000, 8), 44)]
theorem L_dj : ∀ j, j < 22 → ∀ e, L22[j]? = some e → e.2 ∉ L5.map (fun e => e.2) := by
  intro j hj e he
  have : e ∈ L22 := List.mem_of_getElem? he
  revert e
  have hall : ∀ e, e ∈ L22 → e.2 ∉ L5.map (fun e => e.2) := by decide
  intro e _ h
  exact hall e h
theorem sl_00 : ∀ k, k < 8 → sl_g 35468117025 k = 0 := by decide +kernel
theorem inL_c {ci z k : Nat} {x : Nat × Nat} {r : List ((Nat × Nat) × Nat)} {F : hv_S → Option hv_S} {s : hv_S} : inL ci z ((x, k) :: r) F s = ((some (hv_n s)).bind fun n1 => (some (hv_new s x)).bind fun s2 => (x_ob s2 ci (some z)).bind fun a3 => (some (hv_setR s2 a3 k (some n1))).bind fun s4 => inL ci z r F s4) := rfl
theorem inL_n {ci z : Nat} {F : hv_S → Option hv_S} {s : hv_S} : inL ci z [] F s = F s := rfl
theorem Mo_inL {g : Nat} {x : Int32} {s : hv_S} : f_Mo_init g x s = inL 11 g L22 (fun s88 => (x_ob s88 11 ((some g))).bind fun a89 => (some (hv_setI s88 a89 37 ((-1)))).bind fun s90 => (x_ob s90 11 ((some g))).bind fun a91 => (some (hv_setI s90 a91 38 ((-1)))).bind fun s92 => inL 11 g L5 (fun s112 => (x_ob s112 11 ((some g))).bind fun a113 => (some (hv_setI s112 a113 1 ((3 : Int32) + (x &&& (15 : Int32))))).bind fun s114 => some s114) s92) s := by
  unfold f_Mo_init L22 L5
  simp only [inL_c, inL_n]
section M2
variable {sh : Nat → Option (Nat × Nat)} {I : Nat → Nat → Int32} {J : Nat → Nat → Int64} {R : Nat → Nat → Option Nat} {g : Nat} {x : Int32}
theorem new_Mo (h : sh g = some (11, 0)) (hI : ∀ k, I g k = 0) : ∃ sh' I' J' R', f_Mo_init g x (sh, I, J, R, g + 1) = some (sh', I', J', R', g + 28) ∧ ly_M sh' R' g ∧ MO I' g (lmN x) 0 Q0 ∧ (∀ a, a < g → sh' a = sh a ∧ ∀ k, I' a k = I a k ∧ J' a k = J a k ∧ R' a k = R a k) := by
  obtain ⟨sh1, I1, J1, R1, e1, a1, p1, k1⟩ := inL_spec (z := g) L22 (g + 1) sh I J R (by omega) h (by decide)
  have s1 : sh1 g = some (11, 0) := (a1.2.1 g (by omega)).trans h
  have a1' : AL g (g + 1) (g + 23) sh I J R sh1 I1 J1 R1 := a1
  obtain ⟨sh2, I2, J2, R2, e2, a2, p2, k2⟩ := inL_spec (z := g) L5 (g + 23) sh1 (hv_u (hv_u I1 g 37 (-1)) g 38 (-1)) J1 R1 (by omega) s1 (by decide)
  have s2 : sh2 g = some (11, 0) := (a2.2.1 g (by omega)).trans s1
  have a2' : AL g (g + 23) (g + 28) sh1 (hv_u (hv_u I1 g 37 (-1)) g 38 (-1)) J1 R1 sh2 I2 J2 R2 := a2
  have S1 : ∀ j e, j < 22 → L22[j]? = some e → sh2 (g + 1 + j) = some e.1 ∧ R2 g e.2 = some (g + 1 + j) := fun j e hj he => ⟨(a2'.2.1 _ (by omega)).trans (p1 j e he).1, (k2 _ (L_dj j hj e he)).trans (p1 j e he).2⟩
  have S2 : ∀ j e, L5[j]? = some e → sh2 (g + 23 + j) = some e.1 ∧ R2 g e.2 = some (g + 23 + j) := fun j e he => p2 j e he
  have zI : ∀ a k, g < a → a < g + 28 → (hv_u I2 g 1 (nI (lmN x))) a k = 0 := fun a k q1 q2 => by
    rw [ev_ua (by omega)]
    by_cases ha : a < g + 23
    · rw [(a2'.2.2.1 a k ha).1, ev_ua (by omega), ev_ua (by omega)]; exact (a1'.2.2.2.1 a k (by omega) ha).1
    · exact (a2'.2.2.2.1 a k (by omega) q2).1
  have bI' : ∀ k, k ≠ 1 → k ≠ 37 → k ≠ 38 → (hv_u I2 g 1 (nI (lmN x))) g k = 0 := fun k q0 q1 q2 => by
    rw [ev_uk q0, (a2'.2.2.1 g k (by omega)).1, ev_uk q2, ev_uk q1, (a1'.2.2.1 g k (by omega)).1]; exact hI k
  refine ⟨sh2, hv_u I2 g 1 (nI (lmN x)), J2, R2, ?_, ?_, ?_, fun a q => ⟨?_, fun k => ⟨?_, ?_, ?_⟩⟩⟩
  · have hn1 : g + 1 + L22.length = g + 23 := rfl
    have hn2 : g + 23 + L5.length = g + 28 := rfl
    rw [Mo_inL, e1, hn1, ev_ob s1, ev_b, ev_sI, ev_b, ev_ob s1, ev_b, ev_sI, ev_b, e2, hn2, ev_ob s2, ev_b, ev_sI, ev_b, lm_e]
  · exact ⟨s2, (S1 0 _ (by omega) rfl).1, (S1 1 _ (by omega) rfl).1, (S1 2 _ (by omega) rfl).1, (S1 3 _ (by omega) rfl).1, (S1 4 _ (by omega) rfl).1, (S1 5 _ (by omega) rfl).1, (S1 6 _ (by omega) rfl).1, (S1 7 _ (by omega) rfl).1, (S1 8 _ (by omega) rfl).1, (S1 9 _ (by omega) rfl).1, (S1 10 _ (by omega) rfl).1, (S1 11 _ (by omega) rfl).1, (S1 12 _ (by omega) rfl).1, (S1 13 _ (by omega) rfl).1, (S1 14 _ (by omega) rfl).1, (S1 15 _ (by omega) rfl).1, (S1 16 _ (by omega) rfl).1, (S1 17 _ (by omega) rfl).1, (S1 18 _ (by omega) rfl).1, (S1 19 _ (by omega) rfl).1, (S1 20 _ (by omega) rfl).1, (S1 21 _ (by omega) rfl).1, (S2 0 _ rfl).1, (S2 1 _ rfl).1, (S2 2 _ rfl).1, (S2 3 _ rfl).1, (S2 4 _ rfl).1, (S1 0 _ (by omega) rfl).2, (S1 1 _ (by omega) rfl).2, (S1 2 _ (by omega) rfl).2, (S1 3 _ (by omega) rfl).2, (S1 4 _ (by omega) rfl).2, (S1 5 _ (by omega) rfl).2, (S1 6 _ (by omega) rfl).2, (S1 7 _ (by omega) rfl).2, (S1 8 _ (by omega) rfl).2, (S1 9 _ (by omega) rfl).2, (S1 10 _ (by omega) rfl).2, (S1 11 _ (by omega) rfl).2, (S1 12 _ (by omega) rfl).2, (S1 13 _ (by omega) rfl).2, (S1 14 _ (by omega) rfl).2, (S1 15 _ (by omega) rfl).2, (S1 16 _ (by omega) rfl).2, (S1 17 _ (by omega) rfl).2, (S1 18 _ (by omega) rfl).2, (S1 19 _ (by omega) rfl).2, (S1 20 _ (by omega) rfl).2, (S1 21 _ (by omega) rfl).2, (S2 0 _ rfl).2, (S2 1 _ rfl).2, (S2 2 _ rfl).2, (S2 3 _ rfl).2, (S2 4 _ rfl).2⟩
  · refine ⟨⟨bI' 2 (by omega) (by omega) (by omega), Nat.zero_le _, fun k hk => absurd hk (Nat.not_lt_zero _)⟩, ⟨bI' 4 (by omega) (by omega) (by omega), Nat.zero_le _, fun k hk => absurd hk (Nat.not_lt_zero _)⟩, bI' 6 (by omega) (by omega) (by omega), ⟨0, bI' 27 (by omega) (by omega) (by omega), bI' 28 (by omega) (by omega) (by omega), bI' 29 (by omega) (by omega) (by omega), bI' 36 (by omega) (by omega) (by omega), ev_us, fun k s hs => by simp [Q0] at hs⟩, Or.inl ⟨rfl, bI' 39 (by omega) (by omega) (by omega)⟩, ?_, ?_, ⟨⟨0, fun _ => true, Nat.le_refl _, by omega, bI' 16 (by omega) (by omega) (by omega), fun j hj => ⟨0, Nat.le_refl _, zI _ _ (by omega) (by omega), rfl⟩⟩, ⟨35468117025, fun k hk => (zI _ _ (by omega) (by omega)).trans (sl_00 k hk).symm⟩⟩⟩
    · rw [ev_uk (by omega), (a2'.2.2.1 g 38 (by omega)).1, ev_us]; rfl
    · rw [ev_uk (by omega), (a2'.2.2.1 g 37 (by omega)).1, ev_uk (by omega), ev_us]; rfl
  · exact (a2'.2.1 a (by omega)).trans (a1'.2.1 a (by omega))
  · rw [ev_ua (by omega), (a2'.2.2.1 a k (by omega)).1, ev_ua (by omega), ev_ua (by omega)]; exact (a1'.2.2.1 a k (by omega)).1
  · rw [(a2'.2.2.1 a k (by omega)).2]; exact (a1'.2.2.1 a k (by omega)).2
  · exact (a2'.2.2.2.2 a k (by omega) (by omega)).trans (a1'.2.2.2.2 a k (by omega) (by omega))
end M2
