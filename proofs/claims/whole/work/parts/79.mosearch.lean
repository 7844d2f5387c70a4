/-! THE REFERENCE'S SEARCH -/
section MSE
variable {sh : Nat → Option (Nat × Nat)} {I I' : Nat → Nat → Int32} {J : Nat → Nat → Int64} {R : Nat → Nat → Option Nat} {n g lim S B : Nat} {Q : Qs} {P : pg_P}
/-- code of what is thrown, as the reference counts it, and the answer -/
def th_c : Int32 ⊕ Nat → Int32
  | .inl _ => 0
  | .inr k => if k = 89 then 1 else 2
def th_v : Int32 ⊕ Nat → Int32
  | .inl v => v
  | .inr _ => 0
theorem MO_make {U : au_A} {w : Int64} {x y : Int32} {S' c : Nat} (h : MO I g lim S Q) (hi : ∀ a k, (a = g ∧ (k = 2 ∨ k = 4 ∨ k = 6 ∨ k = 15)) ∨ (g + 1 ≤ a ∧ a ≤ g + 5) → I' a k = I a k) (hk : kp_R I' g lim (U.1, U.2.1, U.2.2.1, c)) (hb : bs_R I' g w) (hx : I' g 38 = x) (hy : I' g 37 = y) (hs : sm_R I' g S') : MO I' g lim S' (Q.1, Q.2.1, Q.2.2.1, U, w, x, y) := by
  obtain ⟨h1, h2, h3, h4, h5, h6, h7, h8⟩ := h
  refine ⟨⟨(hi _ _ (by omega)).trans h1.1, h1.2.1, fun k hk => ⟨(hi _ _ (by omega)).trans (h1.2.2 k hk).1, (h1.2.2 k hk).2⟩⟩, ⟨(hi _ _ (by omega)).trans h2.1, h2.2.1, fun k hk => ⟨(hi _ _ (by omega)).trans (h2.2.2 k hk).1, (h2.2.2 k hk).2⟩⟩, ?_, ⟨c, hk⟩, hb, hx, hy, hs⟩
  show mo_Po I' g Q.2.2.1
  match hq : Q.2.2.1 with
  | none => rw [hq] at h3; exact (hi _ _ (by omega)).trans h3
  | some P =>
    rw [hq] at h3
    obtain ⟨q1, q2, q3⟩ := h3
    exact ⟨q1, ⟨(hi _ _ (by omega)).trans q2.1, fun i hi' => ⟨(hi _ _ (by omega)).trans (q2.2 i hi').1, (hi _ _ (by omega)).trans (q2.2 i hi').2.1, (hi _ _ (by omega)).trans (q2.2 i hi').2.2⟩⟩, (hi _ _ (by omega)).trans q3⟩
/-- only the code of what is thrown changes -/
theorem MO_0 {v : Int32} (hA : au_I (Q.2.2.1.getD p0) lim Q.2.2.2.1) (h : MO I g lim S Q) : MO (hv_u I g 0 v) g lim S Q := by
  obtain ⟨h1, h2, h3, ⟨c, h4⟩, h5, h6, h7, h8⟩ := h
  have e : ∀ a k, (a ≠ g ∨ k ≠ 0) → (hv_u I g 0 v) a k = I a k := fun a k q => by
    rcases q with q | q
    · rw [ev_ua q]
    · rw [ev_uk q]
  obtain ⟨w1, w2, w3, w4, w5, w6⟩ := h4
  exact MO_make (U := Q.2.2.2.1) (c := c) ⟨h1, h2, h3, ⟨c, w1, w2, w3, w4, w5, w6⟩, h5, h6, h7, h8⟩ (fun a k q => e _ _ (by omega)) ⟨(e _ _ (by omega)).trans w1, (e _ _ (by omega)).trans w2, (e _ _ (by omega)).trans w3, (e _ _ (by omega)).trans w4, (e _ _ (by omega)).trans w5, fun k s hs => ks_mono (hA.2 s (List.mem_of_getElem? hs)).1 (fun a j q => e _ _ (by omega)) (w6 k s hs)⟩ (bs_R_mono (e _ _ (by omega)) (fun k => e _ _ (by omega)) h5) ((e _ _ (by omega)).trans h6) ((e _ _ (by omega)).trans h7) (sm_mono (Nat.le_refl _) (fun a k q => e _ _ (by omega)) h8)
theorem e_Mo_disp {m : Nat} (hm : m < 4) (hl : ly_M sh R g) (hB : B + 3 < 1000000) (hS : S + 3000 < 2 ^ 31) (hA : AU lim B Q) (hA2 : au_I P lim (au_E P Q.2.1 lim Q.2.2.2.1).2) (hl1 : 1 ≤ lim) (hlim : lim ≤ 19) (hq : Q.2.2.1 = some P) (hW : pg_W P) (hM : MO I g lim S Q) (h36 : I g 36 = nI 0) (h37 : I g 37 = nI m) :
    ∃ I', ((if nI m = 0 then (f_Mo_runLists g 0 0 (sh, I, J, R, n)).bind fun p8 => some p8 else if nI m = 1 then (f_Mo_runMarks g (sh, I, J, R, n)).bind fun p9 => some p9 else if nI m = 2 then (f_Mo_runStates g (sh, I, J, R, n)).bind fun p10 => some p10 else (f_Mo_runSingle g (sh, I, J, R, n)).bind fun p11 => some p11) : Option hv_S) = some (sh, I', J, R, n) ∧ I' g 36 = (se_Q P lim m Q).2.2.2.2.2.1 ∧ bs_R I' g (se_Q P lim m Q).2.2.2.2.1 ∧ MO (hv_u I' g 38 (I' g 36)) g lim (S + 1000) (se_Q P lim m Q) ∧ I' g 0 = I g 0 ∧ (∀ a k, a < g ∨ g + 27 < a → I' a k = I a k) := by
  have hMM := hM
  obtain ⟨h1, h2, h3, ⟨c, h4⟩, h5, h6, h7, h8⟩ := hM
  have h3' := h3
  rw [hq] at h3'
  obtain ⟨-, hp, h15⟩ := h3'
  have hgp : Q.2.2.1.getD p0 = P := by rw [hq]; rfl
  obtain ⟨a1, a2, a3⟩ := hA
  rw [hgp] at a1 a2
  have h8' := h8
  obtain ⟨⟨S1, mm, hS1, hmm⟩, hnw⟩ := h8'
  have hkp0 : kp_R I g lim (Q.2.2.2.1.1, Q.2.2.2.1.2.1, Q.2.2.2.1.2.2.1, 0) := ⟨h4.1, h4.2.1, h4.2.2.1, h36, h4.2.2.2.2.1, h4.2.2.2.2.2⟩
  have E : ∀ (I' : Nat → Nat → Int32) (v : Int32) a k, (a ≠ g ∨ k ≠ 38) → (hv_u I' g 38 v) a k = I' a k := fun I' v a k q => by
    rcases q with q | q
    · rw [ev_ua q]
    · rw [ev_uk q]
  -- a run that keeps the states
  have hrl : ∀ (I' : Nat → Nat → Int32) (w : Int64) (cc S2 : Nat) (y : Int32), rl_K g I I' → bs_R I' g w → I' g 36 = nI cc → S2 ≤ S + 1000 → (∃ m, mm_R I' g S2 m) → nw_R I' g → y = nI m → MO (hv_u I' g 38 (nI cc)) g lim (S + 1000) (Q.1, Q.2.1, Q.2.2.1, Q.2.2.2.1, w, nI cc, y) := fun I' w cc S2 y K hb hc hs2 hm2 hn2 hy => by
    obtain ⟨m2, hm2⟩ := hm2
    refine MO_make (c := cc) hMM (fun a k q => by rw [E _ _ _ _ (by omega)]; exact K _ _ (by omega) (by omega) (by omega)) ?_ (bs_R_mono (E _ _ _ _ (by omega)) (fun k => E _ _ _ _ (by omega)) hb) ev_us (by rw [E _ _ _ _ (by omega), K _ _ (by omega) (by omega) (by omega), h37, hy]) ⟨⟨S2, m2, hs2, mm_R_mono (fun j => E _ _ _ _ (by omega)) (E _ _ _ _ (by omega)) hm2⟩, nw_mono (fun k => E _ _ _ _ (by omega)) hn2⟩
    have hk2 := kp_rl (c := cc) (U := (Q.2.2.2.1.1, Q.2.2.2.1.2.1, Q.2.2.2.1.2.2.1, 0)) a1 K hc hkp0
    obtain ⟨w1, w2, w3, w4, w5, w6⟩ := hk2
    exact ⟨(E _ _ _ _ (by omega)).trans w1, (E _ _ _ _ (by omega)).trans w2, (E _ _ _ _ (by omega)).trans w3, (E _ _ _ _ (by omega)).trans w4, (E _ _ _ _ (by omega)).trans w5, fun k s hs => ks_mono (a1.2 s (List.mem_of_getElem? hs)).1 (fun a j q => E _ _ _ _ (by omega)) (w6 k s hs)⟩
  have hcs : m = 0 ∨ m = 1 ∨ m = 2 ∨ m = 3 := by omega
  rcases hcs with h | h | h | h
  · subst h
    rw [if_pos (show nI 0 = 0 from rfl)]
    obtain ⟨I1, S2, m1, e1, c1, b1, s1, mm1, K1, n1⟩ := e_Mo_runLists (J := J) (n := n) (fr := 0) (c := 0) (on := true) hl hW (Nat.zero_le _) (show S1 + 30 < 2 ^ 31 by omega) hp h2 hmm h36
    have e1' : f_Mo_runLists g 0 0 (sh, I, J, R, n) = some (sh, I1, J, R, n) := e1
    have c1 : I1 g 36 = nI (ls_F P Q.2.1 true 0).2 := c1
    have b1 : bs_R I1 g (ls_F P Q.2.1 true 0).1 := b1
    rw [e1', ev_b]
    refine ⟨I1, rfl, c1, b1, ?_, K1 _ _ (by omega) (by omega) (by omega), fun a k q => K1 _ _ (by omega) (by omega) (by omega)⟩
    rw [c1]
    exact hrl I1 _ _ S2 0 K1 b1 c1 (by omega) ⟨m1, mm1⟩ n1 rfl
  · subst h
    rw [if_neg (show ¬ nI 1 = 0 by decide), if_pos (show nI 1 = 1 from rfl)]
    obtain ⟨I1, e1, c1, b1, K1, n1⟩ := e_Mo_runMarks (J := J) (n := n) (c := 0) hl hW hp h2 h36
    have c1 : I1 g 36 = nI (mk_F P Q.2.1).2 := c1
    have b1 : bs_R I1 g (mk_F P Q.2.1).1 := b1
    rw [e1, ev_b]
    refine ⟨I1, rfl, c1, b1, ?_, K1 _ _ (by omega) (by omega) (by omega) (by omega), fun a k q => K1 _ _ (by omega) (by omega) (by omega) (by omega)⟩
    rw [c1]
    refine MO_make (c := (mk_F P Q.2.1).2) hMM (fun a k q => by rw [E _ _ _ _ (by omega)]; exact K1 _ _ (by omega) (by omega) (by omega) (by omega)) ?_ (bs_R_mono (E _ _ _ _ (by omega)) (fun k => E _ _ _ _ (by omega)) b1) ev_us (by rw [E _ _ _ _ (by omega), K1 _ _ (by omega) (by omega) (by omega) (by omega), h37]; rfl) ⟨⟨S1, mm, by omega, mm_R_mono (fun j => by rw [E _ _ _ _ (by omega)]; exact K1 _ _ (by omega) (by omega) (by omega) (by omega)) (by rw [E _ _ _ _ (by omega)]; exact K1 _ _ (by omega) (by omega) (by omega) (by omega)) hmm⟩, nw_mono (fun k => E _ _ _ _ (by omega)) (n1 hnw)⟩
    have E1 : ∀ a k, (a ≠ g ∨ (k ≠ 18 ∧ k ≠ 36 ∧ k ≠ 38 ∧ k ≠ 39)) → (a < g + 10 ∨ g + 13 < a) → a ≠ g + 17 → a ≠ g + 23 → (hv_u I1 g 38 (nI (mk_F P Q.2.1).2)) a k = I a k := fun a k q1 q2 q3 q4 => by rw [E _ _ _ _ (by omega)]; exact K1 _ _ (by omega) q2 q3 q4
    exact ⟨(E1 _ _ (by omega) (by omega) (by omega) (by omega)).trans hkp0.1, (E1 _ _ (by omega) (by omega) (by omega) (by omega)).trans hkp0.2.1, (E1 _ _ (by omega) (by omega) (by omega) (by omega)).trans hkp0.2.2.1, (E _ _ _ _ (by omega)).trans c1, (E1 _ _ (by omega) (by omega) (by omega) (by omega)).trans hkp0.2.2.2.2.1, fun k s hs => ks_mono (a1.2 s (List.mem_of_getElem? hs)).1 (fun a j q => E1 _ _ (by omega) (by omega) (by omega) (by omega)) (hkp0.2.2.2.2.2 k s hs)⟩
  · subst h
    rw [if_neg (show ¬ nI 2 = 0 by decide), if_neg (show ¬ nI 2 = 1 by decide), if_pos (show nI 2 = 2 from rfl)]
    have eU : au_E P Q.2.1 lim (Q.2.2.2.1.1, Q.2.2.2.1.2.1, Q.2.2.2.1.2.2.1, 0) = au_E P Q.2.1 lim Q.2.2.2.1 := rfl
    have eR : rs_F P Q.2.1 lim (Q.2.2.2.1.1, Q.2.2.2.1.2.1, Q.2.2.2.1.2.2.1, 0) = rs_F P Q.2.1 lim Q.2.2.2.1 := rfl
    obtain ⟨I1, e1, k1, b1, s37, m1, K1⟩ := e_Mo_runStates (J := J) (n := n) (B := B) (U := (Q.2.2.2.1.1, Q.2.2.2.1.2.1, Q.2.2.2.1.2.2.1, 0)) hl hl1 hlim hW (by omega) (show S + 2000 < 2 ^ 31 by omega) hp h2 a1 (by rw [eU]; exact hA2) a2 a3 hkp0 h36 h8
    rw [eU, eR] at k1
    rw [eU] at s37
    rw [eR] at b1
    rw [e1, ev_b]
    have c1 : I1 g 36 = nI (rs_F P Q.2.1 lim Q.2.2.2.1).2 := k1.2.2.2.1
    refine ⟨I1, rfl, c1, b1, ?_, K1 _ _ (by omega) (by omega), fun a k q => K1 _ _ (by omega) (by omega)⟩
    rw [c1]
    refine MO_make (c := (rs_F P Q.2.1 lim Q.2.2.2.1).2) hMM (fun a k q => by rw [E _ _ _ _ (by omega)]; exact K1 _ _ (by omega) (by omega)) ?_ (bs_R_mono (E _ _ _ _ (by omega)) (fun k => E _ _ _ _ (by omega)) b1) ev_us ?_ (sm_mono (Nat.le_refl _) (fun a k q => E _ _ _ _ (by omega)) m1)
    · obtain ⟨w1, w2, w3, w4, w5, w6⟩ := k1
      exact ⟨(E _ _ _ _ (by omega)).trans w1, (E _ _ _ _ (by omega)).trans w2, (E _ _ _ _ (by omega)).trans w3, (E _ _ _ _ (by omega)).trans w4, (E _ _ _ _ (by omega)).trans w5, fun k s hs => ks_mono (hA2.2 s (List.mem_of_getElem? hs)).1 (fun a j q => E _ _ _ _ (by omega)) (w6 k s hs)⟩
    · rw [E _ _ _ _ (by omega), s37, h37]
      split <;> rfl
  · subst h
    rw [if_neg (show ¬ nI 3 = 0 by decide), if_neg (show ¬ nI 3 = 1 by decide), if_neg (show ¬ nI 3 = 2 by decide)]
    obtain ⟨I1, S2, e1, b1, c1, s1, m1, n1, K1⟩ := e_Mo_runSingle (J := J) (n := n) (S := S1) hl hW (by omega) hp h2 ⟨mm, hmm⟩
    rw [e1, ev_b]
    refine ⟨I1, rfl, c1, b1, ?_, K1 _ _ (by omega) (by omega) (by omega), fun a k q => K1 _ _ (by omega) (by omega) (by omega)⟩
    rw [c1]
    exact hrl I1 _ _ S2 3 K1 b1 c1 (by omega) m1 n1 rfl
end MSE
