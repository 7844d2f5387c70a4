/-! THE CLASS'S AUTOMATON: next states, ends -/
theorem au_ksf {lim : Nat} {r : List Nat} {b : Bool} {U : au_A} (h : U.2.2.1 < 3) : ((au_k lim r b U).1 = none ↔ ¬ (au_k lim r b U).2.2.2.1 < 3) ∧ (au_k lim r b U).2.2.1 + U.2.2.1 = U.2.1 + (au_k lim r b U).2.2.2.1 ∧ (au_k lim r b U).2.2.2.1 ≤ 3 := by
  unfold au_k
  split
  · exact ⟨⟨fun e => (by cases e), fun e => absurd h e⟩, rfl, by show U.2.2.1 ≤ 3; omega⟩
  · split
    · exact ⟨⟨fun e => (by cases e), fun e => absurd h e⟩, rfl, by show U.2.2.1 ≤ 3; omega⟩
    · split
      · next h3 => exact ⟨⟨fun e => (by cases e), fun e => absurd h3 e⟩, by show U.2.1 + 1 + U.2.2.1 = U.2.1 + (U.2.2.1 + 1); omega, by show U.2.2.1 + 1 ≤ 3; omega⟩
      · next h3 => exact ⟨⟨fun _ => h3, fun _ => rfl⟩, by show U.2.1 + 1 + U.2.2.1 = U.2.1 + (U.2.2.1 + 1); omega, by show U.2.2.1 + 1 ≤ 3; omega⟩
def au_V (P : pg_P) (lim B : Nat) (x : Option Nat) (U : au_A) : Prop := au_I P lim U ∧ U.2.1 ≤ B + U.2.2.1 ∧ U.2.2.1 ≤ 3 ∧ (x = none ↔ ¬ U.2.2.1 < 3) ∧ ∀ y, x = some y → y < U.1.length
theorem au_1V {P : pg_P} {lim B : Nat} {U : au_A} (hW : pg_W P) (hl : 1 ≤ lim) (hI : au_I P lim U) (hf : U.2.1 ≤ B + U.2.2.1) (hs : U.2.2.1 < 3) : au_V P lim B (au_1 P lim U).1 (au_1 P lim U).2 := by
  unfold au_1
  obtain ⟨a1, a2, a3⟩ := au_ksf (lim := lim) (r := tr P (ro_F P 0 2 0 (fun _ => false, [])).2) (b := true) hs
  obtain ⟨b1, b2, -⟩ := au_kI (b := true) hl (ro_FJ (pl := 0) (ru := 2) hW (ro_J0 hW) hW.1) hI rfl
  exact ⟨b1, by omega, a3, a1, b2⟩
theorem au_nV {P : pg_P} {lim B c y : Nat} {U : au_A} (hW : pg_W P) (hl : 1 ≤ lim) (h : au_V P lim B (some y) U) : au_V P lim B (au_n P lim c y U).1 (au_n P lim c y U).2 := by
  obtain ⟨hI, hf, h3, hx, hy⟩ := h
  obtain ⟨n1, n2⟩ := au_nI (c := c) (x := y) hW hl hI
  have hy' := hy y rfl
  have hs : U.2.2.1 < 3 := by
    by_cases h : U.2.2.1 < 3
    · exact h
    · cases hx.2 h
  have hss : U.1[y]? = some U.1[y] := List.getElem?_eq_getElem hy'
  refine ⟨n1, ?_, ?_, ?_, n2⟩
  all_goals unfold au_n
  all_goals rw [hss]
  all_goals dsimp only
  · split
    · exact hf
    · obtain ⟨a1, a2, a3⟩ := au_ksf (lim := lim) (r := tr P (au_r2 P c U.1[y]).2) (b := au_o P U.1[y]) hs
      show (au_k _ _ _ U).2.2.1 ≤ B + (au_k _ _ _ U).2.2.2.1
      omega
  · split
    · exact h3
    · obtain ⟨a1, a2, a3⟩ := au_ksf (lim := lim) (r := tr P (au_r2 P c U.1[y]).2) (b := au_o P U.1[y]) hs
      exact a3
  · split
    · next hc =>
      refine ⟨fun e => ?_, fun e => absurd hs e⟩
      have e : U.1[y].2.2 c = none := e
      rw [e] at hc
      cases hc
    · obtain ⟨a1, a2, a3⟩ := au_ksf (lim := lim) (r := tr P (au_r2 P c U.1[y]).2) (b := au_o P U.1[y]) hs
      exact a1
def au_X (P : pg_P) (sh : Nat → Option (Nat × Nat)) (I : Nat → Nat → Int32) (R : Nat → Nat → Option Nat) (A lim : Nat) (U : au_A) : Prop := ∃ ad sp, au_L sh R A lim ad sp ∧ au_R P I A ad U
section A2
variable {sh : Nat → Option (Nat × Nat)} {I I' : Nat → Nat → Int32} {J J' : Nat → Nat → Int64} {R R' : Nat → Nat → Option Nat} {n g x A lim sp : Nat} {ad : Nat → Nat} {P : pg_P} {T : tx_T}
theorem au_L_R (h : ∀ a k, (a ≠ A + 1 ∨ (k ≠ 5 ∧ k ≠ 6)) → R' a k = R a k) (hL : au_L sh R A lim ad sp) : au_L sh R' A lim ad sp := by
  obtain ⟨l0, lF, lT, l10, r0, r1, r2, r3, rr, o1, o2, o3, o4, o5⟩ := hL
  refine ⟨l0, ?_, ?_, l10, (h _ _ (by omega)).trans r0, (h _ _ (by omega)).trans r1, (h _ _ (by omega)).trans r2, (h _ _ (by omega)).trans r3, fun k hk => (h _ _ (by omega)).trans (rr k hk), o1, o2, o3, o4, fun a ha => ?_⟩
  · obtain ⟨a1, a2, a3, a4, a5⟩ := lF
    exact ⟨a1, a2, a3, (h _ _ (by omega)).trans a4, (h _ _ (by omega)).trans a5⟩
  · obtain ⟨a1, a2, a3, a4, a5⟩ := lT
    exact ⟨a1, a2, a3, (h _ _ (by omega)).trans a4, (h _ _ (by omega)).trans a5⟩
  · have hg := sp_ge ha
    obtain ⟨a1, a2, a3, a4, a5⟩ := o5 a ha
    exact ⟨a1, a2, a3, (h _ _ (by omega)).trans a4, (h _ _ (by omega)).trans a5⟩
theorem ly_P_au (h : ∀ a k, a ≠ A → a ≠ A + 1 → a ≠ A + 10 → R' a k = R a k) (d : g + 3 < A ∨ A + 10 + 3 * lim < g) (hG : ly_P sh R g) : ly_P sh R' g := by
  obtain ⟨g0, g1, g2, g3, g4, g5, g6⟩ := hG
  exact ⟨g0, g1, g2, g3, (h _ _ (by omega) (by omega) (by omega)).trans g4, (h _ _ (by omega) (by omega) (by omega)).trans g5, (h _ _ (by omega) (by omega) (by omega)).trans g6⟩
theorem ly_X_au (h : ∀ a k, a ≠ A → a ≠ A + 1 → a ≠ A + 10 → R' a k = R a k) (d : x + 1 < A ∨ A + 10 + 3 * lim < x) (hX : ly_X sh R x) : ly_X sh R' x := ⟨hX.1, hX.2.1, (h _ _ (by omega) (by omega) (by omega)).trans hX.2.2⟩
theorem fo_kq (h : fo_K (A + 1) (A + 4) I I' J J') : kq_K A (A + 10 + 3 * lim) I I' J J' := fun a k ha => h.1 a k (by omega) (by omega)
theorem au_R_fo {U : au_A} (hU : U.1.length ≤ lim) (hL : au_L sh R A lim ad sp) (h : fo_K (A + 1) (A + 4) I I' J J') (hR : au_R P I A ad U) : au_R P I' A ad U :=
  au_R_mono hU hL.2.2.2.2.2.2.2.2.2.2.1 (fun a k ha => (h.1 a k (by omega) (by omega)).1) hR
theorem e_Au_begin {pl ru : Nat} {U : au_A} (hU : U.1.length ≤ lim) (hL : au_L sh R A lim ad sp) (hG : ly_P sh R g) (dg : g + 3 < A ∨ A + 10 + 3 * lim < g) (hR : au_R P I A ad U) (hp : pg_R I g P) :
    ∃ I' J' R', f_Fo_begin (A + 1) (some g) (some (A + 4)) (nI pl) (nI ru) (sh, I, J, R, n) = some (sh, I', J', R', n) ∧ fx_R I' J' (A + 1) (A + 4) (fun _ => false, []) ∧ I' (A + 1) 7 = nI pl ∧ I' (A + 1) 8 = nI ru ∧ fo_C sh R' (A + 1) (A + 4) g ∧ au_L sh R' A lim ad sp ∧ au_R P I' A ad U ∧ pg_R I' g P ∧ au_K A lim I I' J J' R R' ∧ (∀ a k, (a < A + 1 ∨ A + 6 < a) → I' a k = I a k) := by
  obtain ⟨I1, J1, R1, e1, f1, p7, p8, K1, s5, s6, KR⟩ := e_Fo_begin (sh := sh) (I := I) (J := J) (R := R) (n := n) (f := A + 1) (t := A + 4) (g := g) (pl := pl) (ru := ru) hL.2.1 hL.2.2.1 (by omega)
  have hL1 := au_L_R (R' := R1) KR hL
  have hKR : ∀ a k, a ≠ A → a ≠ A + 1 → a ≠ A + 10 → R1 a k = R a k := fun a k h1 h2 h3 => KR a k (Or.inl h2)
  have Kq : kq_K A (A + 10 + 3 * lim) I I1 J J1 := fun a k h => K1 a k (by omega) (by omega)
  refine ⟨I1, J1, R1, e1, ⟨_, rfl, f1⟩, p7, p8, ⟨hL1.2.1, hL1.2.2.1, ly_P_au hKR dg hG, s5, s6, by omega, by omega, by omega⟩, hL1, au_R_mono hU hL.2.2.2.2.2.2.2.2.2.2.1 (fun a k ha => (K1 a k (by omega) (by omega)).1) hR, pg_R_q Kq dg hp, ⟨Kq, hKR⟩, fun a k h => (K1 a k (by omega) (by omega)).1⟩
theorem e_Au_firstState {U : au_A} (hX : au_X P sh I R A lim U) (hG : ly_P sh R g) (hl1 : 1 ≤ lim) (hl : lim ≤ 19) (hW : pg_W P) (dg : g + 3 < A ∨ A + 10 + 3 * lim < g) (hp : pg_R I g P) (hI : au_I P lim U) (hsf : U.2.2.1 < 3) :
    ∃ I' J' R', f_Au_firstState A (some g) (sh, I, J, R, n) = some (oI (au_1 P lim U).1, (sh, I', J', R', n)) ∧ au_X P sh I' R' A lim (au_1 P lim U).2 ∧ au_K A lim I I' J J' R R' := by
  obtain ⟨ad, sp, hL, hR⟩ := hX
  obtain ⟨I1, J1, R1, e1, f1, p7, p8, hC, hL1, hR1, hp1, K1, -⟩ := e_Au_begin (n := n) (J := J) (pl := 0) (ru := 2) hI.1 hL hG dg hR hp
  obtain ⟨I2, J2, e2, f2, K2⟩ := e_Fo_followR (n := n) (i := 0) (w := 0) hC hp1 hW p7 p8 (by omega) (by omega) hW.1 (ro_J0 hW) f1
  have hp2 := pg_R_q (fo_kq (lim := lim) K2) dg hp1
  have hR2 := au_R_fo hI.1 hL1 K2 hR1
  have hJ2 := ro_FJ (pl := 0) (ru := 2) hW (ro_J0 hW) hW.1
  obtain ⟨q1, q2⟩ := fx_ls f2
  obtain ⟨I3, R3, ad3, sp3, e3, hL3, hR3, K3, -⟩ := e_Au_keep (J := J2) (n := n) (b := true) (m := (ro_F P 0 2 0 (fun _ => false, [])).1) (l := (ro_F P 0 2 0 (fun _ => false, [])).2) hL1 hC.2.2.1 hl1 hl hW dg hp2 hJ2 q1 q2 hR2 hI hsf
  have e1' : f_Fo_begin (A + 1) (some g) (some (A + 4)) 0 2 (sh, I, J, R, n) = some (sh, I1, J1, R1, n) := e1
  have e2' : f_Fo_follow (A + 1) 0 0 (sh, I1, J1, R1, n) = some (sh, I2, J2, R1, n) := e2
  have e3' : f_Au_keep A (some g) 1 (sh, I2, J2, R1, n) = _ := e3
  unfold f_Au_firstState
  simp only [ev_ob hL.1, ev_b, ev_R, hL.2.2.2.2.1, hL.2.2.2.2.2.1, ev_ob hL.2.1.1, e1', hL1.2.2.2.2.1, e2', e3']
  exact ⟨I3, J2, R3, rfl, ⟨ad3, sp3, hL3, hR3⟩, au_K_trans K1 (au_K_trans ⟨fo_kq K2, fun _ _ _ _ _ => rfl⟩ K3)⟩
theorem e_St_entryAt {a k e : Nat} {s : au_S} (hS : ly_S sh R a) (h : st_S P I a s) (h25 : s.1.length ≤ 25) (he : s.1[k]? = some e) : f_St_entryAt a (nI k) (sh, I, J, R, n) = some (nI e, (sh, I, J, R, n)) := by
  have hk := gl he
  unfold f_St_entryAt
  rw [if_neg (nI_pos (by omega))]
  simp only [ev_ob hS.1, ev_b, ev_I, h.1]
  rw [if_neg (by rw [nI_leI (by omega) (by omega)]; omega), if_neg (by rw [li_25, nI_leI (by omega) (by omega)]; omega)]
  simp only [ev_R, hS.2.2.2.1, ev_ar0 hS.2.1, ev_b, ev_ix (show k < 25 by omega) (show 25 < 2 ^ 31 by omega), h.2.2.2.1 k e he]
theorem e_Au_nloop {a c : Nat} {s : au_S} (hA : sh A = some (9, 0)) (r0 : R A 0 = some (A + 1)) (hC : fo_C sh R (A + 1) (A + 4) g) (hS : ly_S sh R a) (da : A + 7 ≤ a) (hW : pg_W P) (hc : c < 8) (h25 : s.1.length ≤ 25) (hlt : ∀ e, e ∈ s.1 → e < P.1) :
    ∀ (rest pre : List Nat) (N : Nat) (s0 : ro_T) (I : Nat → Nat → Int32) (J : Nat → Nat → Int64), rest.length < N → s.1 = pre ++ rest → pg_R I g P → st_S P I a s → I (A + 1) 7 = nI 1 → I (A + 1) 8 = nI 2 → fx_R I J (A + 1) (A + 4) s0 → ro_J P s0 →
    ∃ I' J', L_Au_nextState_48 N (some A) (some g) (nI c) (some a) (nI pre.length) (sh, I, J, R, n) = some (sh, I', J', R, n) ∧ fx_R I' J' (A + 1) (A + 4) (ro_g P 1 2 (tkl P c) rest s0) ∧ fo_K (A + 1) (A + 4) I I' J J'
  | rest, pre, 0, _, _, _, h, _, _, _, _, _, _, _ => by omega
  | [], pre, N + 1, s0, I, J, hN, hs, hp, hst, h7, h8, hf, hJ => by
    rw [L_Au_nextState_48]
    simp only [ev_ob hS.1, ev_b, ev_I, hst.1]
    rw [hs, List.append_nil] at h25 ⊢
    rw [if_pos (by rw [nI_leI (by omega) (by omega)]; exact Nat.le_refl _)]
    exact ⟨I, J, rfl, hf, fo_K_refl⟩
  | e :: rest, pre, N + 1, s0, I, J, hN, hs, hp, hst, h7, h8, hf, hJ => by
    have hge : s.1[pre.length]? = some e := by rw [hs]; simp
    have hk := gl hge
    have he : e < P.1 := hlt e (List.mem_of_getElem? hge)
    have hG := hC.2.2.1
    rw [L_Au_nextState_48]
    simp only [ev_ob hS.1, ev_b, ev_I, hst.1]
    rw [if_neg (by rw [nI_leI (by omega) (by omega)]; omega)]
    simp only [e_St_entryAt hS hst h25 hge, ev_b, ev_ob hG.1, e_Pr_takesL hG hp hW hc he]
    unfold ro_g
    by_cases ht : tkl P c e = true
    · have h7e := tkl7 ht
      have he1 : e + 1 < P.1 := by
        have := (hW.2.2.1 e he).2.1
        have : ¬ e + 1 = P.1 := fun q => h7e (this.2 q)
        omega
      obtain ⟨I1, J1, e1, f1, K1⟩ := e_Fo_followR (n := n) (i := e + 1) (w := 0) hC hp hW h7 h8 (by omega) (by omega) he1 hJ hf
      rw [ht, if_neg (show ¬ bI true = 0 by decide), if_pos rfl]
      simp only [ev_ob hA, ev_b, ev_ob hS.1, e_St_entryAt hS hst h25 hge, ev_R, r0, ev_ob hC.1.1, nI_1, e1]
      obtain ⟨I2, J2, e2, f2, K2⟩ := e_Au_nloop hA r0 hC hS da hW hc h25 hlt rest (pre ++ [e]) N (ro_F P 1 2 (e + 1) s0) I1 J1 (by simp at hN; omega) (by rw [hs]; simp) (pg_R_K K1 (by have := hC.2.2.2.2.2.2.1; exact this) hC.2.2.2.2.2.2.2 hp) (st_S_mono (fun b j g1 g2 => (K1.1 _ _ (by omega) (by omega)).1) hst) ((K1.2 7 (Or.inl rfl)).trans h7) ((K1.2 8 (Or.inr rfl)).trans h8) f1 (ro_FJ hW hJ he1)
      rw [List.length_append] at e2
      exact ⟨I2, J2, e2, f2, fo_K_trans K1 K2⟩
    · have ht' : tkl P c e = false := by simpa using ht
      rw [ht', if_pos (show bI false = 0 by decide), if_neg (by simp)]
      simp only [ev_b, nI_1]
      obtain ⟨I2, J2, e2, f2, K2⟩ := e_Au_nloop hA r0 hC hS da hW hc h25 hlt rest (pre ++ [e]) N s0 I J (by simp at hN; omega) (by rw [hs]; simp) hp hst h7 h8 hf hJ
      rw [List.length_append] at e2
      exact ⟨I2, J2, e2, f2, K2⟩
theorem e_Au_nextState {c y B : Nat} {U : au_A} (hX : au_X P sh I R A lim U) (hG : ly_P sh R g) (hl1 : 1 ≤ lim) (hl : lim ≤ 19) (hW : pg_W P) (dg : g + 3 < A ∨ A + 10 + 3 * lim < g) (hp : pg_R I g P) (hV : au_V P lim B (some y) U) (hB : B < 2 ^ 30) (hc : c < 8) :
    ∃ I' J' R', f_Au_nextState A (some g) (nI y) (nI c) (sh, I, J, R, n) = some (oI (au_n P lim c y U).1, (sh, I', J', R', n)) ∧ au_X P sh I' R' A lim (au_n P lim c y U).2 ∧ au_K A lim I I' J J' R R' := by
  obtain ⟨ad, sp, hL, hR⟩ := hX
  obtain ⟨hI, hfl, h3, hx, hy⟩ := hV
  have hy := hy y rfl
  have hsf : U.2.2.1 < 3 := by
    by_cases h : U.2.2.1 < 3
    · exact h
    · cases hx.2 h
  have hlen := hI.1
  obtain ⟨l0, lF, lT, l10, r0, r1, r2, r3, rr, o1, o2, o3, o4, o5⟩ := hL
  have hylim : y < lim := by omega
  have hss : U.1[y]? = some U.1[y] := List.getElem?_eq_getElem hy
  have hst := hR.2.2.2.2 y _ hss
  have hsI := hI.2 _ (List.mem_of_getElem? hss)
  generalize U.1[y] = s at hss hst hsI
  have hS := o5 _ (o2 y hylim)
  have hgy := sp_ge (o2 y hylim)
  have e0 : f_Au_stateAt A (nI y) (sh, I, J, R, n) = some (some (ad y), (sh, I, J, R, n)) := by
    unfold f_Au_stateAt
    rw [if_neg (nI_pos (by omega))]
    simp only [ev_ob l0, ev_b, ev_I, hR.1, ev_R, r2, ev_ar20 l10]
    rw [if_neg (by rw [nI_leI (by omega) (by omega)]; omega), if_neg (by rw [nI_leI (by omega) (by omega)]; omega)]
    simp only [ev_ix hylim (show lim < 2 ^ 31 by omega), ev_b, rr y hylim]
  have e0b : f_St_leadBy (ad y) (nI c) (sh, I, J, R, n) = some (oI (s.2.2 c), (sh, I, J, R, n)) := by
    unfold f_St_leadBy
    rw [if_neg (nI_pos (by omega)), if_neg (by rw [li_8, nI_leI (by omega) (by omega)]; omega)]
    simp only [ev_ob hS.1, ev_b, ev_I, ev_R, hS.2.2.2.2, ev_ar0 hS.2.2.1, ev_ix (show c < 8 by omega) (show 8 < 2 ^ 31 by omega), hst.2.2.2.2 c hc]
  unfold f_Au_nextState
  simp only [ev_ob l0, ev_b, e0]
  rw [if_neg (by simp)]
  simp only [ev_ob hS.1, ev_b, e0b]
  unfold au_n
  rw [hss]
  dsimp only
  match hld : s.2.2 c with
  | some j =>
    have hj := hsI.2.2.2 c j hld
    rw [if_neg (show ¬ oI (some j) = -1 by show ¬ nI j = -1; rw [ev_n1 (by omega)]; exact not_false), if_pos (by simp)]
    exact ⟨I, J, R, rfl, ⟨ad, sp, ⟨l0, lF, lT, l10, r0, r1, r2, r3, rr, o1, o2, o3, o4, o5⟩, hR⟩, au_K_refl⟩
  | none =>
    rw [if_pos (show oI none = -1 from rfl), if_neg (by simp)]
    have hL : au_L sh R A lim ad sp := ⟨l0, lF, lT, l10, r0, r1, r2, r3, rr, o1, o2, o3, o4, o5⟩
    obtain ⟨I1, J1, R1, e1, f1, p7, p8, hC, hL1, hR1, hp1, K1, K1'⟩ := e_Au_begin (n := n) (J := J) (pl := 1) (ru := 2) hlen hL hG dg hR hp
    have hst1 := hR1.2.2.2.2 y s hss
    obtain ⟨I2, J2, e2, f2, K2⟩ := e_Au_nloop (n := n) (R := R1) hL1.1 hL1.2.2.2.2.1 hC (hL1.2.2.2.2.2.2.2.2.2.2.2.2.2 _ (o2 y hylim)) hgy.1 hW hc hsI.1 hsI.2.1 s.1 [] 100000 (fun _ => false, []) I1 J1 (by have := hsI.1; omega) rfl hp1 hst1 p7 p8 f1 (ro_J0 hW)
    have f2 : fx_R I2 J2 (A + 1) (A + 4) (au_r P c s) := f2
    have hp2 := pg_R_q (fo_kq (lim := lim) K2) dg hp1
    have hR2 := au_R_fo hlen hL1 K2 hR1
    have hst2 := hR2.2.2.2.2 y s hss
    have hS1 := hL1.2.2.2.2.2.2.2.2.2.2.2.2.2 _ (o2 y hylim)
    have hJ0 : ro_J P (au_r P c s) := ro_gJ hW (fun e h => tkl7 h) s.1 _ hsI.2.1 (ro_J0 hW)
    have e3 : f_St_opensNext (ad y) (sh, I2, J2, R1, n) = some (bI (au_o P s), (sh, I2, J2, R1, n)) := by
      unfold f_St_opensNext au_o
      simp only [ev_ob hS1.1, ev_b, ev_I, hst2.2.1, hst2.2.2.1]
      cases s.2.1 <;> cases hf P s.1 <;> rfl
    have e4 : ∃ I3 J3, ((if bI (au_o P s) = 0 then some (sh, I2, J2, R1, n) else (x_ob (sh, I2, J2, R1, n) 9 (some A)).bind fun a21 => (x_ob (sh, I2, J2, R1, n) 4 (hv_R (sh, I2, J2, R1, n) a21 0)).bind fun a22 => (f_Fo_follow a22 0 0 (sh, I2, J2, R1, n)).bind fun p23 => some p23) : Option hv_S) = some (sh, I3, J3, R1, n) ∧ fx_R I3 J3 (A + 1) (A + 4) (au_r2 P c s) ∧ fo_K (A + 1) (A + 4) I2 I3 J2 J3 := by
      unfold au_r2
      by_cases ho : au_o P s = true
      · rw [ho, if_neg (show ¬ bI true = 0 by decide), if_pos rfl]
        obtain ⟨I3, J3, e3, f3, K3⟩ := e_Fo_followR (n := n) (i := 0) (w := 0) hC hp2 hW ((K2.2 7 (Or.inl rfl)).trans p7) ((K2.2 8 (Or.inr rfl)).trans p8) (by omega) (by omega) hW.1 hJ0 f2
        have e3' : f_Fo_follow (A + 1) 0 0 (sh, I2, J2, R1, n) = some (sh, I3, J3, R1, n) := e3
        simp only [ev_ob hL1.1, ev_b, ev_R, hL1.2.2.2.2.1, ev_ob hC.1.1, e3']
        exact ⟨I3, J3, rfl, f3, K3⟩
      · have ho' : au_o P s = false := by simpa using ho
        rw [ho', if_pos (show bI false = 0 by decide), if_neg (by simp)]
        exact ⟨I2, J2, rfl, f2, fo_K_refl⟩
    obtain ⟨I3, J3, e4, f3, K3⟩ := e4
    have K23 := fo_K_trans K2 K3
    have hp3 := pg_R_q (fo_kq (lim := lim) K3) dg hp2
    have hR3 := au_R_fo hlen hL1 K3 hR2
    obtain ⟨q1, q2⟩ := fx_ls f3
    have hJ3 := au_rJ (c := c) hW hsI
    obtain ⟨I4, R4, ad4, sp4, e5, hL4, hR4, K4, hadk, -⟩ := e_Au_keep (J := J3) (n := n) (b := au_o P s) (m := (au_r2 P c s).1) (l := (au_r2 P c s).2) hL1 hC.2.2.1 hl1 hl hW dg hp3 hJ3 q1 q2 hR3 hI hsf
    obtain ⟨k1, k2, k3⟩ := au_kI (b := au_o P s) hl1 hJ3 hI rfl
    obtain ⟨z1, z2, z3⟩ := au_ksf (lim := lim) (r := tr P (au_r2 P c s).2) (b := au_o P s) hsf
    have e1' : f_Fo_begin (A + 1) (some g) (some (A + 4)) 1 2 (sh, I, J, R, n) = some (sh, I1, J1, R1, n) := e1
    have e2' : L_Au_nextState_48 100000 (some A) (some g) (nI c) (some (ad y)) 0 (sh, I1, J1, R1, n) = some (sh, I2, J2, R1, n) := e2
    have KK := au_K_trans K1 (au_K_trans ⟨fo_kq K23, fun _ _ _ _ _ => rfl⟩ K4)
    simp only [ev_ob l0, ev_R, r0, r1, ev_ob lF.1, ev_b, e1', e2', ev_ob hS1.1, e3]
    simp only [ev_ob l0, ev_R, ev_b] at e4
    rw [e4]
    simp only [ev_b, ev_ob l0, ev_I, e5, hR3.2.1, hR4.2.1]
    generalize hq : au_k lim (tr P (au_r2 P c s).2) (au_o P s) U = q at *
    unfold au_w
    by_cases hflq : q.2.2.1 = U.2.1
    · rw [if_pos (by rw [hflq]), if_pos hflq]
      obtain ⟨⟨v, hv⟩, K, hK⟩ := k3 hflq
      have hady : ad4 y = ad y := hadk hflq y hy
      have hS4 := hL4.2.2.2.2.2.2.2.2.2.2.2.2.2 _ (o2 y hylim)
      have e6 : f_St_setLead (ad y) (nI c) (oI q.1) (sh, I4, J3, R4, n) = some (sh, hv_u I4 (ad y + 2) c (oI q.1), J3, R4, n) := by
        unfold f_St_setLead
        rw [if_neg (nI_pos (by omega)), if_neg (by rw [li_8, nI_leI (by omega) (by omega)]; omega)]
        simp only [ev_ob hS4.1, ev_b, ev_R, hS4.2.2.2.2, ev_ar0 hS4.2.2.1, ev_ix (show c < 8 by omega) (show 8 < 2 ^ 31 by omega), ev_sI]
      simp only [ev_ob hS4.1, ev_b, e6]
      refine ⟨_, J3, R4, rfl, ⟨ad4, sp4, hL4, ?_⟩, au_K_trans KK ⟨fun a k h => ⟨by rw [ev_ua (by omega)], rfl⟩, fun _ _ _ _ _ => rfl⟩⟩
      have hylq : y < q.2.1.length := by rw [hK, List.length_append]; omega
      have hqy : q.2.1[y]? = some s := by rw [hK, List.getElem?_append_left hy]; exact hss
      have hql := k1.1
      obtain ⟨w1, w2, w3, w4, w5⟩ := hR4
      refine ⟨?_, ?_, ?_, ?_, fun k s' hs' => ?_⟩
      · rw [ev_ua (by omega), w1]
        show _ = nI (q.2.1.set y _).length
        rw [List.length_set]
      · rw [ev_ua (by omega)]; exact w2
      · rw [ev_ua (by omega)]; exact w3
      · rw [ev_ua (by omega)]; exact w4
      · have hs' : (q.2.1.set y (s.1, s.2.1, fun j => if j = c then q.1 else s.2.2 j))[k]? = some s' := hs'
        rw [List.getElem?_set] at hs'
        by_cases hky : y = k
        · subst hky
          rw [if_pos rfl, if_pos hylq] at hs'
          injection hs' with hs'
          subst hs'
          obtain ⟨t1, t2, t3, t4, t5⟩ := w5 y s hqy
          rw [hady] at t1 t2 t3 t4 t5 ⊢
          refine ⟨by rw [ev_ua (by omega)]; exact t1, by rw [ev_ua (by omega)]; exact t2, by rw [ev_ua (by omega)]; exact t3, fun j e he => by rw [ev_ua (by omega)]; exact t4 j e he, fun j hj => ?_⟩
          show _ = oI (if j = c then q.1 else s.2.2 j)
          by_cases e : j = c
          · rw [if_pos e, e, ev_us]
          · rw [if_neg e, ev_uk e]; exact t5 j hj
        · rw [if_neg hky] at hs'
          have hkl : k < lim := by have := gl hs'; omega
          have hne : ad4 k ≠ ad y := fun e => hky (hL4.2.2.2.2.2.2.2.2.2.2.2.2.1 y k hylim hkl (by rw [hady, e]))
          have := sp_ne (hL4.2.2.2.2.2.2.2.2.2.2.1 k hkl) (o2 y hylim) hne
          exact st_S_mono (fun b j g1 g2 => by rw [ev_ua (by omega)]) (w5 k s' hs')
    · rw [if_neg (by rw [nI_eq (by omega) (by omega)]; exact hflq), if_neg hflq]
      exact ⟨I4, J3, R4, rfl, ⟨ad4, sp4, hL4, hR4⟩, KK⟩
end A2
