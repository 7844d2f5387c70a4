/-! THE CLASS'S AUTOMATON: where the last match ends -/
def cI : Option (Option Nat) → Int32
  | none => -1
  | some e => oI e
section A3
variable {sh : Nat → Option (Nat × Nat)} {I I' : Nat → Nat → Int32} {J J' : Nat → Nat → Int64} {R R' : Nat → Nat → Option Nat} {n g x A lim sp : Nat} {ad : Nat → Nat} {P : pg_P} {T : tx_T}
theorem e_Au_bloop {a pl : Nat} {s : au_S} (hA : sh A = some (9, 0)) (r0 : R A 0 = some (A + 1)) (hC : fo_C sh R (A + 1) (A + 4) g) (hS : ly_S sh R a) (da : A + 7 ≤ a) (hW : pg_W P) (hpl : pl < 31) (h25 : s.1.length ≤ 25) (hlt : ∀ e, e ∈ s.1 → e < P.1) :
    ∀ (rest pre : List Nat) (N : Nat) (s0 : ro_T) (I : Nat → Nat → Int32) (J : Nat → Nat → Int64), rest.length < N → s.1 = pre ++ rest → pg_R I g P → st_S P I a s → I (A + 1) 7 = nI pl → I (A + 1) 8 = nI 1 → fx_R I J (A + 1) (A + 4) s0 → ro_J P s0 →
    ∃ I' J', L_Au_foundBehindLasts_17 N (some A) (some g) (some a) (nI pre.length) (sh, I, J, R, n) = some (sh, I', J', R, n) ∧ fx_R I' J' (A + 1) (A + 4) (ro_g P pl 1 (fun e => decide (P.2.1 e = 6)) rest s0) ∧ fo_K (A + 1) (A + 4) I I' J J'
  | rest, pre, 0, _, _, _, h, _, _, _, _, _, _, _ => by omega
  | [], pre, N + 1, s0, I, J, hN, hs, hp, hst, h7, h8, hf, hJ => by
    rw [L_Au_foundBehindLasts_17]
    simp only [ev_ob hS.1, ev_b, ev_I, hst.1]
    rw [hs, List.append_nil] at h25 ⊢
    rw [if_pos (by rw [nI_leI (by omega) (by omega)]; exact Nat.le_refl _)]
    exact ⟨I, J, rfl, hf, fo_K_refl⟩
  | e :: rest, pre, N + 1, s0, I, J, hN, hs, hp, hst, h7, h8, hf, hJ => by
    have hge : s.1[pre.length]? = some e := by rw [hs]; simp
    have hk := gl hge
    have he : e < P.1 := hlt e (List.mem_of_getElem? hge)
    have hG := hC.2.2.1
    have hk7 := (hW.2.2.1 e he).1
    rw [L_Au_foundBehindLasts_17]
    simp only [ev_ob hS.1, ev_b, ev_I, hst.1]
    rw [if_neg (by rw [nI_leI (by omega) (by omega)]; omega)]
    simp only [e_St_entryAt hS hst h25 hge, ev_b, ev_ob hG.1, e_Pr_kindAt hG hp he]
    unfold ro_g
    by_cases ht : P.2.1 e = 6
    · have he1 : e + 1 < P.1 := by
        have := (hW.2.2.1 e he).2.1
        have : ¬ e + 1 = P.1 := fun q => by have := this.2 q; omega
        omega
      obtain ⟨I1, J1, e1, f1, K1⟩ := e_Fo_followR (n := n) (i := e + 1) (w := 0) hC hp hW h7 h8 (by omega) (by omega) he1 hJ hf
      rw [if_pos (by rw [ht]; rfl), if_pos (decide_eq_true ht)]
      simp only [ev_ob hA, ev_b, ev_ob hS.1, e_St_entryAt hS hst h25 hge, ev_R, r0, ev_ob hC.1.1, nI_1, e1]
      obtain ⟨I2, J2, e2, f2, K2⟩ := e_Au_bloop hA r0 hC hS da hW hpl h25 hlt rest (pre ++ [e]) N (ro_F P pl 1 (e + 1) s0) I1 J1 (by simp at hN; omega) (by rw [hs]; simp) (pg_R_K K1 (by have := hC.2.2.2.2.2.2.1; exact this) hC.2.2.2.2.2.2.2 hp) (st_S_mono (fun b j g1 g2 => (K1.1 _ _ (by omega) (by omega)).1) hst) ((K1.2 7 (Or.inl rfl)).trans h7) ((K1.2 8 (Or.inr rfl)).trans h8) f1 (ro_FJ hW hJ he1)
      rw [List.length_append] at e2
      exact ⟨I2, J2, e2, f2, fo_K_trans K1 K2⟩
    · rw [if_neg (by rw [li_6, nI_eq (by omega) (by omega)]; exact ht), if_neg (by simpa using ht)]
      simp only [ev_b, nI_1]
      obtain ⟨I2, J2, e2, f2, K2⟩ := e_Au_bloop hA r0 hC hS da hW hpl h25 hlt rest (pre ++ [e]) N s0 I J (by simp at hN; omega) (by rw [hs]; simp) hp hst h7 h8 hf hJ
      rw [List.length_append] at e2
      exact ⟨I2, J2, e2, f2, K2⟩
theorem e_Au_hloop {l : List Nat} (hA : sh A = some (9, 0)) (r1 : R A 1 = some (A + 4)) (hT : ly_T sh R (A + 4)) (hG : ly_P sh R g) (hp : pg_R I g P) (hW : pg_W P) (h25 : l.length ≤ 25) (hlt : ∀ e, e ∈ l → e < P.1) (h1 : I (A + 4) 2 = nI l.length) (h2 : ix_R I (A + 4 + 1) l) :
    ∀ (rest pre : List Nat) (N : Nat), rest.length < N → l = pre ++ rest →
    ((L_Au_foundBehindLasts_66 N (some A) (some g) (nI pre.length) (sh, I, J, R, n)).bind fun e23r => e23r.elim (fun e23 => some ((0 : Int32), e23)) (fun w => some w)) = some (bI (hf P rest), (sh, I, J, R, n))
  | rest, pre, 0, h, _ => by omega
  | [], pre, N + 1, hN, hs => by
    rw [L_Au_foundBehindLasts_66]
    simp only [ev_ob hA, ev_b, ev_R, r1, ev_ob hT.1, e_TL_size hT h1]
    rw [hs, List.append_nil] at h25 ⊢
    rw [if_pos (by rw [nI_leI (by omega) (by omega)]; exact Nat.le_refl _)]
    rfl
  | e :: rest, pre, N + 1, hN, hs => by
    have hge : l[pre.length]? = some e := by rw [hs]; simp
    have hk := gl hge
    have he : e < P.1 := hlt e (List.mem_of_getElem? hge)
    have hk7 := (hW.2.2.1 e he).1
    have ei := e_TL_instructionAt (J := J) (n := n) (i := pre.length) hT h1 h25 hk
    rw [h2 _ _ hge] at ei
    rw [L_Au_foundBehindLasts_66]
    simp only [ev_ob hA, ev_b, ev_R, r1, ev_ob hT.1, e_TL_size hT h1]
    rw [if_neg (by rw [nI_leI (by omega) (by omega)]; omega)]
    simp only [ei, ev_b, ev_ob hG.1, e_Pr_kindAt hG hp he]
    rw [hf_c]
    by_cases ht : P.2.1 e = 7
    · rw [if_pos (by rw [ht]; rfl), decide_eq_true ht, Bool.true_or]; rfl
    · rw [if_neg (by rw [li_7, nI_eq (by omega) (by omega)]; exact ht), decide_eq_false ht, Bool.false_or, nI_1]
      have ih := e_Au_hloop hA r1 hT hG hp hW h25 hlt h1 h2 rest (pre ++ [e]) N (by simp at hN; omega) (by rw [hs]; simp)
      rw [List.length_append] at ih
      exact ih
theorem e_Au_foundBehindLasts {y : Nat} {s : au_S} {U : au_A} (hI : au_I P lim U) (hL : au_L sh R A lim ad sp) (hR : au_R P I A ad U) (hs : U.1[y]? = some s) (hG : ly_P sh R g) (hl : lim ≤ 19) (hW : pg_W P) (dg : g + 3 < A ∨ A + 10 + 3 * lim < g) (hp : pg_R I g P) (hT : T.1 ≤ 20) :
    ∃ I' J' R', f_Au_foundBehindLasts A (some g) (some (ad y)) (nI T.1) (sh, I, J, R, n) = some (bI (au_b P T s.1), (sh, I', J', R', n)) ∧ au_L sh R' A lim ad sp ∧ au_R P I' A ad U ∧ au_K A lim I I' J J' R R' := by
  have hsI := hI.2 s (List.mem_of_getElem? hs)
  have hy : y < lim := by have := gl hs; have := hI.1; omega
  have hay := hL.2.2.2.2.2.2.2.2.2.2.1 y hy
  have hgy := sp_ge hay
  obtain ⟨I1, J1, R1, e1, f1, p7, p8, hC, hL1, hR1, hp1, K1, K1'⟩ := e_Au_begin (n := n) (J := J) (pl := T.1) (ru := 1) hI.1 hL hG dg hR hp
  have hS1 := hL1.2.2.2.2.2.2.2.2.2.2.2.2.2 _ hay
  obtain ⟨I2, J2, e2, f2, K2⟩ := e_Au_bloop (n := n) (R := R1) hL1.1 hL1.2.2.2.2.1 hC hS1 hgy.1 hW (show T.1 < 31 by omega) hsI.1 hsI.2.1 s.1 [] 100000 (fun _ => false, []) I1 J1 (by have := hsI.1; omega) rfl hp1 (hR1.2.2.2.2 y s hs) p7 p8 f1 (ro_J0 hW)
  have hp2 := pg_R_q (fo_kq (lim := lim) K2) dg hp1
  obtain ⟨q1, q2⟩ := fx_ls f2
  have hJ2 : ro_J P (ro_g P T.1 1 (fun e => decide (P.2.1 e = 6)) s.1 (fun _ => false, [])) := ro_gJ hW (fun e h => by simp only [decide_eq_true_eq] at h; omega) s.1 _ hsI.2.1 (ro_J0 hW)
  have e3 := e_Au_hloop (J := J2) (n := n) hL1.1 hL1.2.2.2.2.2.1 hL1.2.2.1 hC.2.2.1 hp2 hW (by have := hJ2.1; omega) hJ2.2 q1 q2 (ro_g P T.1 1 (fun e => decide (P.2.1 e = 6)) s.1 (fun _ => false, [])).2 [] 100000 (by have := hJ2.1; omega) rfl
  have e1' : f_Fo_begin (A + 1) (some g) (some (A + 4)) (nI T.1) 1 (sh, I, J, R, n) = some (sh, I1, J1, R1, n) := e1
  have e2' : L_Au_foundBehindLasts_17 100000 (some A) (some g) (some (ad y)) 0 (sh, I1, J1, R1, n) = some (sh, I2, J2, R1, n) := e2
  have e3' : ((L_Au_foundBehindLasts_66 100000 (some A) (some g) 0 (sh, I2, J2, R1, n)).bind fun e23r => e23r.elim (fun e23 => some ((0 : Int32), e23)) (fun w => some w)) = _ := e3
  unfold f_Au_foundBehindLasts
  simp only [ev_ob hL.1, ev_b, ev_R, hL.2.2.2.2.1, hL.2.2.2.2.2.1, ev_ob hL.2.1.1, e1', e2', e3']
  exact ⟨I2, J2, R1, rfl, hL1, au_R_fo hI.1 hL1 K2 hR1, au_K_trans K1 ⟨fo_kq K2, fun _ _ _ _ _ => rfl⟩⟩
theorem e_Au_eloop {B : Nat} (hl1 : 1 ≤ lim) (hl : lim ≤ 19) (hW : pg_W P) (dg : g + 3 < A ∨ A + 10 + 3 * lim < g) (dx : x + 1 < A ∨ A + 10 + 3 * lim < x) (hB : B < 2 ^ 30) :
    ∀ (k N p : Nat) (en xo : Option Nat) (U : au_A) (I : Nat → Nat → Int32) (J : Nat → Nat → Int64) (R : Nat → Nat → Option Nat), k < N → p + k = T.1 + 1 → 1 ≤ k → ly_P sh R g → ly_X sh R x → pg_R I g P → tx_R I x T → au_V P lim B xo U → au_X P sh I R A lim U →
    ∃ I' J' R', ((L_Au_lastEnd_22 N (some A) (some g) (some x) (oI en) (oI xo) (nI p) (sh, I, J, R, n)).bind fun e23r => e23r.elim (fun e23 => some (e23.1, e23.2)) (fun w => some w)) = some (cI (au_e P T lim k p en xo U).1, (sh, I', J', R', n)) ∧ au_X P sh I' R' A lim (au_e P T lim k p en xo U).2 ∧ au_I P lim (au_e P T lim k p en xo U).2 ∧ ((au_e P T lim k p en xo U).1 = none ↔ ¬ (au_e P T lim k p en xo U).2.2.2.1 < 3) ∧ (au_e P T lim k p en xo U).2.2.1 ≤ B + 3 ∧ (au_e P T lim k p en xo U).2.2.2.1 ≤ 3 ∧ (∀ e, (au_e P T lim k p en xo U).1 = some (some e) → en = some e ∨ e ≤ T.1) ∧ au_K A lim I I' J J' R R'
  | k, 0, _, _, _, _, _, _, _, h, _, _, _, _, _, _, _, _ => by omega
  | 0, N + 1, p, en, xo, U, I, J, R, hN, hpk, hk, _, _, _, _, _, _ => by omega
  | k + 1, N + 1, p, en, none, U, I, J, R, hN, hpk, hk, hG, hX, hp, ht, hV, hU => by
    have t20 := ht.2.1
    obtain ⟨ad, sp, hL, hR⟩ := hU
    have e0 : f_Au_stateAt A (oI none) (sh, I, J, R, n) = some (none, (sh, I, J, R, n)) := by
      unfold f_Au_stateAt
      rw [if_pos (show oI none < 0 by decide)]
      rfl
    rw [L_Au_lastEnd_22]
    simp only [ev_ob hX.1, ev_b, e_Tx_length hX ht]
    rw [if_neg (by rw [nI_ltI (by omega) (by omega)]; omega)]
    simp only [ev_ob hL.1, ev_b, e0]
    rw [if_pos trivial]
    refine ⟨I, J, R, rfl, ⟨ad, sp, hL, hR⟩, hV.1, ⟨fun _ => hV.2.2.2.1.1 rfl, fun _ => rfl⟩, ?_, hV.2.2.1, fun e h => (by cases h), au_K_refl⟩
    show U.2.1 ≤ B + 3
    have := hV.2.1
    have := hV.2.2.1
    omega
  | k + 1, N + 1, p, en, some y, U, I, J, R, hN, hpk, hk, hG, hX, hp, ht, hV, hU => by
    have t20 := ht.2.1
    obtain ⟨ad, sp, hL, hR⟩ := hU
    obtain ⟨hI, hfl, h3, hxo, hy⟩ := hV
    have hy := hy y rfl
    have hsf : U.2.2.1 < 3 := by
      by_cases h : U.2.2.1 < 3
      · exact h
      · cases hxo.2 h
    have hlen := hI.1
    have hylim : y < lim := by omega
    have hss : U.1[y]? = some U.1[y] := List.getElem?_eq_getElem hy
    have hst := hR.2.2.2.2 y _ hss
    have hsI := hI.2 _ (List.mem_of_getElem? hss)
    generalize U.1[y] = s at hss hst hsI
    have hLL := hL
    obtain ⟨l0, lF, lT, l10, r0, r1, r2, r3, rr, o1, o2, o3, o4, o5⟩ := hL
    have hS := o5 _ (o2 y hylim)
    have e0 : f_Au_stateAt A (oI (some y)) (sh, I, J, R, n) = some (some (ad y), (sh, I, J, R, n)) := by
      show f_Au_stateAt A (nI y) (sh, I, J, R, n) = _
      unfold f_Au_stateAt
      rw [if_neg (nI_pos (by omega))]
      simp only [ev_ob l0, ev_b, ev_I, hR.1, ev_R, r2, ev_ar20 l10]
      rw [if_neg (by rw [nI_leI (by omega) (by omega)]; omega), if_neg (by rw [nI_leI (by omega) (by omega)]; omega)]
      simp only [ev_ix hylim (show lim < 2 ^ 31 by omega), ev_b, rr y hylim]
    rw [L_Au_lastEnd_22]
    simp only [ev_ob hX.1, ev_b, e_Tx_length hX ht]
    rw [if_neg (by rw [nI_ltI (by omega) (by omega)]; omega)]
    simp only [ev_ob l0, ev_b, e0]
    rw [if_neg (by simp)]
    simp only [ev_ob hS.1, ev_b, ev_I, hst.2.2.1]
    -- the end so far
    have e1 : ∃ I1 J1 R1, ((if bI (hf P s.1) = 0 then (x_ob (sh, I, J, R, n) 2 (some x)).bind fun a10 => (f_Tx_length a10 (sh, I, J, R, n)).bind fun p11 => if nI p = p11.1 then (x_ob p11.2 9 (some A)).bind fun a12 => (f_Au_foundBehindLasts a12 (some g) (some (ad y)) (nI p) p11.2).bind fun p13 => if p13.1 = 0 then some (oI en, p13.2) else some (nI p, p13.2) else some (oI en, p11.2) else some (nI p, (sh, I, J, R, n))) : Option (Int32 × hv_S)) = some (oI (au_en P T p s en), (sh, I1, J1, R1, n)) ∧ au_L sh R1 A lim ad sp ∧ au_R P I1 A ad U ∧ au_K A lim I I1 J J1 R R1 := by
      unfold au_en
      by_cases hf1 : hf P s.1 = true
      · rw [hf1, if_neg (show ¬ bI true = 0 by decide), Bool.true_or, if_pos rfl]
        exact ⟨I, J, R, rfl, hLL, hR, au_K_refl⟩
      · have hf0 : hf P s.1 = false := by simpa using hf1
        rw [hf0, if_pos (show bI false = 0 by decide), Bool.false_or]
        simp only [ev_ob hX.1, ev_b, e_Tx_length hX ht]
        by_cases hpe : p = T.1
        · rw [if_pos (by rw [hpe]), decide_eq_true hpe, Bool.true_and, hpe]
          obtain ⟨I1, J1, R1, e1, hL1, hR1, K1⟩ := e_Au_foundBehindLasts (n := n) (J := J) (T := T) hI hLL hR hss hG hl hW dg hp t20
          simp only [ev_ob l0, ev_b, e1]
          cases hb : au_b P T s.1 with
          | true => exact ⟨I1, J1, R1, by rw [if_neg (show ¬ bI true = 0 by decide)]; rfl, hL1, hR1, K1⟩
          | false => exact ⟨I1, J1, R1, by rw [if_pos (show bI false = 0 by decide)]; rfl, hL1, hR1, K1⟩
        · rw [if_neg (by rw [nI_eq (by omega) (by omega)]; exact hpe), decide_eq_false hpe, Bool.false_and]
          exact ⟨I, J, R, rfl, hLL, hR, au_K_refl⟩
    obtain ⟨I1, J1, R1, e1, hL1, hR1, K1⟩ := e1
    simp only [ev_ob hX.1, ev_b, e_Tx_length hX ht, ev_ob l0] at e1 ⊢
    rw [e1]
    have hG1 := ly_P_au (lim := lim) K1.2 dg hG
    have hX1 := ly_X_au (lim := lim) K1.2 dx hX
    have hp1 := pg_R_q K1.1 dg hp
    have ht1 := tx_R_q K1.1 dx ht
    have hst1 := hR1.2.2.2.2 y s hss
    have hS1 := hL1.2.2.2.2.2.2.2.2.2.2.2.2.2 _ (o2 y hylim)
    simp only [ev_ob hX.1, ev_b, e_Tx_length hX1 ht1]
    have hae : au_e P T lim (k + 1) p en (some y) U = if p = T.1 ∨ (s.2.1 = false ∧ s.1 = []) then (some (au_en P T p s en), U) else au_e P T lim k (p + 1) (au_en P T p s en) (au_n P lim (T.2 p) y U).1 (au_n P lim (T.2 p) y U).2 := by
      conv => lhs; unfold au_e
      rw [hss]
    have hen : ∀ e, au_en P T p s en = some e → en = some e ∨ e ≤ T.1 := fun e he => by
      unfold au_en at he
      split at he
      · injection he with he; exact Or.inr (by omega)
      · exact Or.inl he
    have hend : ∀ e, (some (au_en P T p s en), U).1 = some (some e) → en = some e ∨ e ≤ T.1 := fun e he => by
      have he : some (au_en P T p s en) = some (some e) := he
      injection he with he
      exact hen e he
    have hB3 : U.2.1 ≤ B + 3 := by omega
    by_cases hpe : p = T.1
    · rw [if_pos (by rw [hpe]), hae, if_pos (Or.inl hpe)]
      exact ⟨I1, J1, R1, rfl, ⟨ad, sp, hL1, hR1⟩, hI, ⟨fun e => (by cases e), fun e => absurd hsf e⟩, hB3, h3, hend, K1⟩
    · rw [if_neg (by rw [nI_eq (by omega) (by omega)]; exact hpe)]
      have e2 : f_St_isOver (ad y) (sh, I1, J1, R1, n) = some (bI (decide (s.2.1 = false ∧ s.1 = [])), (sh, I1, J1, R1, n)) := by
        unfold f_St_isOver
        simp only [ev_ob hS1.1, ev_b, ev_I, hst1.1, hst1.2.1]
        have hl25 := hsI.1
        cases hb : s.2.1 with
        | true => rw [if_neg (show ¬ bI true = 0 by decide), decide_eq_false (by simp)]; rfl
        | false =>
          rw [if_pos (show bI false = 0 by decide)]
          by_cases hn : s.1 = []
          · rw [if_pos (by rw [hn]; rfl), decide_eq_true ⟨rfl, hn⟩]; rfl
          · rw [if_neg (by rw [li_0, nI_eq (by omega) (by omega)]; exact fun e => hn (List.length_eq_zero_iff.mp e)), decide_eq_false (fun e => hn e.2)]; rfl
      simp only [ev_ob hS1.1, ev_b, e2]
      by_cases hov : s.2.1 = false ∧ s.1 = []
      · rw [decide_eq_true hov, if_neg (show ¬ bI true = 0 by decide), hae, if_pos (Or.inr hov)]
        exact ⟨I1, J1, R1, rfl, ⟨ad, sp, hL1, hR1⟩, hI, ⟨fun e => (by cases e), fun e => absurd hsf e⟩, hB3, h3, hend, K1⟩
      · rw [decide_eq_false hov, if_pos (show bI false = 0 by decide), hae, if_neg (fun e => e.elim hpe hov)]
        have hpT : p < T.1 := by omega
        have e3 := e_Tx_letterAt (J := J1) (n := n) hX1 ht1 (show p < 31 by omega)
        rw [if_pos hpT] at e3
        have hV1 : au_V P lim B (some y) U := ⟨hI, hfl, h3, hxo, fun z hz => by injection hz with hz; subst hz; exact hy⟩
        obtain ⟨I2, J2, R2, e4, hU2, K2⟩ := e_Au_nextState (n := n) (J := J1) (c := T.2 p) ⟨ad, sp, hL1, hR1⟩ hG1 hl1 hl hW dg hp1 hV1 hB (ht.2.2 p hpT).2
        have e4' : f_Au_nextState A (some g) (oI (some y)) (nI (T.2 p)) (sh, I1, J1, R1, n) = _ := e4
        simp only [ev_ob hX.1, ev_b, e3, ev_ob l0, e4']
        have hG2 := ly_P_au (lim := lim) K2.2 dg hG1
        have hX2 := ly_X_au (lim := lim) K2.2 dx hX1
        obtain ⟨I3, J3, R3, e5, hU3, hI3, z1, z2, z3, z4, K3⟩ := e_Au_eloop hl1 hl hW dg dx hB k N (p + 1) (au_en P T p s en) (au_n P lim (T.2 p) y U).1 (au_n P lim (T.2 p) y U).2 I2 J2 R2 (by omega) (by omega) (by omega) hG2 hX2 (pg_R_q K2.1 dg hp1) (tx_R_q K2.1 dx ht1) (au_nV hW hl1 hV1) hU2
        rw [nI_1]
        refine ⟨I3, J3, R3, e5, hU3, hI3, z1, z2, z3, fun e he => ?_, au_K_trans K1 (au_K_trans K2 K3)⟩
        rcases z4 e he with h | h
        · exact hen e h
        · exact Or.inr h
noncomputable def au_E (P : pg_P) (T : tx_T) (lim : Nat) (U : au_A) : Option (Option Nat) × au_A := au_e P T lim (T.1 + 1) 0 none (au_1 P lim (U.1, U.2.1, 0, 0)).1 (au_1 P lim (U.1, U.2.1, 0, 0)).2
theorem e_Au_lastEnd {B : Nat} {U : au_A} (hl1 : 1 ≤ lim) (hl : lim ≤ 19) (hW : pg_W P) (dg : g + 3 < A ∨ A + 10 + 3 * lim < g) (dx : x + 1 < A ∨ A + 10 + 3 * lim < x) (hB : B < 2 ^ 30) (hG : ly_P sh R g) (hX : ly_X sh R x) (hp : pg_R I g P) (ht : tx_R I x T) (hI : au_I P lim U) (hf : U.2.1 ≤ B) (hU : au_X P sh I R A lim U) :
    ∃ I' J' R', f_Au_lastEnd A (some g) (some x) (sh, I, J, R, n) = some (cI (au_E P T lim U).1, (sh, I', J', R', n)) ∧ au_X P sh I' R' A lim (au_E P T lim U).2 ∧ au_I P lim (au_E P T lim U).2 ∧ ((au_E P T lim U).1 = none ↔ ¬ (au_E P T lim U).2.2.2.1 < 3) ∧ (au_E P T lim U).2.2.1 ≤ B + 3 ∧ (au_E P T lim U).2.2.2.1 ≤ 3 ∧ (∀ e, (au_E P T lim U).1 = some (some e) → e ≤ T.1) ∧ au_K A lim I I' J J' R R' := by
  obtain ⟨ad, sp, hL, hR⟩ := hU
  have t20 := ht.2.1
  have hR0 : au_R P (hv_u (hv_u I A 7 0) A 6 0) A ad (U.1, U.2.1, 0, 0) := by
    obtain ⟨q1, q2, q3, q4, q5⟩ := hR
    refine ⟨by rw [ev_uk (by omega), ev_uk (by omega)]; exact q1, by rw [ev_uk (by omega), ev_uk (by omega)]; exact q2, by rw [ev_us]; rfl, by rw [ev_uk (by omega), ev_us]; rfl, fun k s hs => ?_⟩
    have := (sp_ge (hL.2.2.2.2.2.2.2.2.2.2.1 k (by have h1 : k < U.1.length := gl hs; have := hI.1; omega))).1
    exact st_S_mono (fun b j g1 g2 => by rw [ev_ua (by omega), ev_ua (by omega)]) (q5 k s hs)
  have K0 : kq_K A (A + 10 + 3 * lim) I (hv_u (hv_u I A 7 0) A 6 0) J J := fun a k h => ⟨by rw [ev_ua (by omega), ev_ua (by omega)], rfl⟩
  unfold f_Au_lastEnd
  simp only [ev_ob hL.1, ev_b, ev_sI]
  generalize hv_u (hv_u I A 7 0) A 6 0 = I0 at hR0 K0 ⊢
  have hI0 : au_I P lim (U.1, U.2.1, 0, 0) := hI
  obtain ⟨I1, J1, R1, e1, hU1, K1⟩ := e_Au_firstState (n := n) (J := J) ⟨ad, sp, hL, hR0⟩ hG hl1 hl hW dg (pg_R_q K0 dg hp) hI0 (by show 0 < 3; omega)
  have hV1 := au_1V (B := B) hW hl1 hI0 (by show U.2.1 ≤ B + 0; omega) (by show 0 < 3; omega)
  obtain ⟨I2, J2, R2, e2, hU2, hI2, z1, z2, z3, z4, K2⟩ := e_Au_eloop (n := n) (T := T) hl1 hl hW dg dx hB (T.1 + 1) 100000 0 none _ _ I1 J1 R1 (by omega) (by omega) (by omega) (ly_P_au (lim := lim) K1.2 dg hG) (ly_X_au (lim := lim) K1.2 dx hX) (pg_R_q K1.1 dg (pg_R_q K0 dg hp)) (tx_R_q K1.1 dx (tx_R_q K0 dx ht)) hV1 hU1
  have e2' : ((L_Au_lastEnd_22 100000 (some A) (some g) (some x) (-1) (oI (au_1 P lim (U.1, U.2.1, 0, 0)).1) 0 (sh, I1, J1, R1, n)).bind fun e23r => e23r.elim (fun e23 => some (e23.1, e23.2)) (fun w => some w)) = _ := e2
  rw [e1, ev_b, e2']
  refine ⟨I2, J2, R2, rfl, hU2, hI2, z1, z2, z3, fun e he => ?_, au_K_trans ⟨K0, fun _ _ _ _ _ => rfl⟩ (au_K_trans K1 K2)⟩
  rcases z4 e he with h | h
  · cases h
  · exact h
end A3
