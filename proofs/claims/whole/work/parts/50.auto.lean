/-! THE CLASS'S AUTOMATON -/
section AU
variable {sh : Nat → Option (Nat × Nat)} {I I' : Nat → Nat → Int32} {J J' : Nat → Nat → Int64} {R R' : Nat → Nat → Option Nat} {n g x A lim sp : Nat} {ad : Nat → Nat} {P : pg_P} {T : tx_T}
theorem e_Au_kloop {r : List Nat} {b : Bool} {U : au_A} (hL : au_L sh R A lim ad sp) (hl : lim ≤ 19) (hW : pg_W P) (hR : au_R P I A ad U) (hI : au_I P lim U) (hs : st_S P I sp (r, b, fun _ => none)) (hsI : au_sI P 0 (r, b, fun _ => none)) :
    ∀ (rest pre : List au_S) (N : Nat), rest.length < N → U.1 = pre ++ rest →
    L_Au_keep_18 N (some A) (some sp) (nI pre.length) (sh, I, J, R, n) = some (match au_i r b rest pre.length with | some j => .inr (nI j, (sh, I, J, R, n)) | none => .inl (sh, I, J, R, n))
  | rest, pre, 0, h, _ => by omega
  | [], pre, N + 1, hN, hU => by
    have hlen := hI.1
    rw [L_Au_keep_18]
    simp only [ev_ob hL.1, ev_b, ev_I, hR.1]
    rw [hU, List.append_nil] at hlen ⊢
    rw [if_pos (by rw [nI_leI (by omega) (by omega)]; exact Nat.le_refl _)]
    rfl
  | s :: rest, pre, N + 1, hN, hU => by
    obtain ⟨l0, lF, lT, l10, r0, r1, r2, r3, rr, o1, o2, o3, o4, o5⟩ := hL
    have hlen := hI.1
    have hge : U.1[pre.length]? = some s := by rw [hU]; simp
    have hk : pre.length < U.1.length := gl hge
    have e1 := e_St_isSameAs (J := J) (n := n) (o5 _ (o2 pre.length (by omega))) (o5 _ o1) hW (hR.2.2.2.2 _ _ hge) hs (hI.2 s (List.mem_of_getElem? hge)) hsI
    rw [L_Au_keep_18]
    simp only [ev_ob l0, ev_b, ev_I, hR.1]
    rw [if_neg (by rw [nI_leI (by omega) (by omega)]; omega)]
    simp only [ev_R, r2, ev_ar20 l10, ev_b]
    rw [if_neg (by rw [nI_leI (by omega) (by omega)]; omega)]
    simp only [ev_ix (show pre.length < lim by omega) (show lim < 2 ^ 31 by omega), rr _ (show pre.length < lim by omega), ev_b, ev_ob (o5 _ (o2 pre.length (by omega))).1, e1]
    unfold au_i
    by_cases hq : s.1 = r ∧ s.2.1 = b
    · rw [if_pos hq, decide_eq_true hq, if_neg (show ¬ bI true = 0 by decide)]
    · rw [if_neg hq, decide_eq_false hq, if_pos (show bI false = 0 by decide)]
      have ih := e_Au_kloop ⟨l0, lF, lT, l10, r0, r1, r2, r3, rr, o1, o2, o3, o4, o5⟩ hl hW hR hI hs hsI rest (pre ++ [s]) N (by simp at hN; omega) (by rw [hU]; simp)
      rw [List.length_append] at ih
      rw [nI_1]
      exact ih
/-- the new state put into the row: spare and row's place c change places -/
theorem au_L_swap {c : Nat} (hL : au_L sh R A lim ad sp) (hc : c < lim) : au_L sh (hv_u (hv_u R A 3 (some (ad c))) (A + 10) c (some sp)) A lim (fun k => if k = c then sp else ad k) (ad c) := by
  obtain ⟨l0, lF, lT, l10, r0, r1, r2, r3, rr, o1, o2, o3, o4, o5⟩ := hL
  have hk : ∀ a k, a ≠ A → a ≠ A + 10 → (hv_u (hv_u R A 3 (some (ad c))) (A + 10) c (some sp)) a k = R a k := fun a k h1 h2 => by rw [ev_ua h2, ev_ua h1]
  refine ⟨l0, ?_, ?_, l10, ?_, ?_, ?_, ?_, fun k hk => ?_, o2 c hc, fun k hk => ?_, fun k hk => ?_, fun j k hj hk => ?_, fun a ha => ?_⟩
  · obtain ⟨a1, a2, a3, a4, a5⟩ := lF
    exact ⟨a1, a2, a3, by rw [hk _ _ (by omega) (by omega)]; exact a4, by rw [hk _ _ (by omega) (by omega)]; exact a5⟩
  · obtain ⟨a1, a2, a3, a4, a5⟩ := lT
    exact ⟨a1, a2, a3, by rw [hk _ _ (by omega) (by omega)]; exact a4, by rw [hk _ _ (by omega) (by omega)]; exact a5⟩
  · rw [ev_ua (by omega), ev_uk (by omega)]; exact r0
  · rw [ev_ua (by omega), ev_uk (by omega)]; exact r1
  · rw [ev_ua (by omega), ev_uk (by omega)]; exact r2
  · rw [ev_ua (by omega), ev_us]
  · show _ = some (if k = c then sp else ad k)
    by_cases e : k = c
    · rw [if_pos e, e, ev_us]
    · rw [if_neg e, ev_uk e, ev_ua (by omega)]; exact rr k hk
  · show sp_ok A lim (if k = c then sp else ad k)
    split
    · exact o1
    · exact o2 k hk
  · show (if k = c then sp else ad k) ≠ ad c
    split
    · exact fun e => o3 c hc e.symm
    · next h => exact fun e => h (o4 k c hk hc e)
  · show (if j = c then sp else ad j) = (if k = c then sp else ad k) → j = k
    by_cases h1 : j = c
    · by_cases h2 : k = c
      · exact fun _ => h1.trans h2.symm
      · rw [if_pos h1, if_neg h2]
        exact fun e => absurd e.symm (o3 k hk)
    · by_cases h2 : k = c
      · rw [if_neg h1, if_pos h2]
        exact fun e => absurd e (o3 j hj)
      · rw [if_neg h1, if_neg h2]
        exact o4 j k hj hk
  · have hg := sp_ge ha
    obtain ⟨a1, a2, a3, a4, a5⟩ := o5 a ha
    exact ⟨a1, a2, a3, by rw [hk _ _ (by omega) (by omega)]; exact a4, by rw [hk _ _ (by omega) (by omega)]; exact a5⟩
/-- a state appended behind the kept ones -/
theorem au_R_put {r : List Nat} {b : Bool} {K : List au_S} {fl sf md : Nat} (o2 : ∀ k, k < lim → sp_ok A lim (ad k)) (o3 : ∀ k, k < lim → ad k ≠ sp) (hK : K.length < lim) (hs : st_S P I' sp (r, b, fun _ => none)) (h4 : I' A 4 = nI (K.length + 1)) (h5 : I' A 5 = nI fl) (h6 : I' A 6 = nI sf) (h7 : I' A 7 = nI md) (hk : ∀ k s, K[k]? = some s → st_S P I' (ad k) s) :
    au_R P I' A (fun k => if k = K.length then sp else ad k) (K ++ [(r, b, fun _ => none)], fl, sf, md) := by
  refine ⟨by rw [h4]; simp, h5, h6, h7, fun k s hks => ?_⟩
  have hks : (K ++ [(r, b, fun _ => none)])[k]? = some s := hks
  show st_S P I' (if k = K.length then sp else ad k) s
  rcases Nat.lt_trichotomy k K.length with h | h | h
  · rw [if_neg (by omega)]
    rw [List.getElem?_append_left h] at hks
    exact hk k s hks
  · subst h
    rw [if_pos rfl]
    simp at hks
    subst hks
    exact hs
  · rw [List.getElem?_eq_none (by simp; omega)] at hks; cases hks
theorem e_Au_gaveUp {sf : Nat} (h0 : sh A = some (9, 0)) (h : I A 6 = nI sf) (hs : sf < 100) : f_Au_gaveUp A (sh, I, J, R, n) = some (bI (decide (3 ≤ sf)), (sh, I, J, R, n)) := by
  unfold f_Au_gaveUp
  simp only [ev_ob h0, ev_b, ev_I, h]
  by_cases h3 : sf < 3
  · rw [if_pos (by rw [li_3, nI_ltI (by omega) (by omega)]; exact h3), decide_eq_false (by omega)]; rfl
  · rw [if_neg (by rw [li_3, nI_ltI (by omega) (by omega)]; exact h3), decide_eq_true (by omega)]; rfl
/-- what of the heap an automaton's work keeps -/
def au_K (A lim : Nat) (I I' : Nat → Nat → Int32) (J J' : Nat → Nat → Int64) (R R' : Nat → Nat → Option Nat) : Prop := kq_K A (A + 10 + 3 * lim) I I' J J' ∧ ∀ a k, a ≠ A → a ≠ A + 1 → a ≠ A + 10 → R' a k = R a k
theorem au_K_refl : au_K A lim I I J J R R := ⟨kq_refl, fun _ _ _ _ _ => rfl⟩
theorem au_K_trans {I2 : Nat → Nat → Int32} {J2 : Nat → Nat → Int64} {R2 : Nat → Nat → Option Nat} (h : au_K A lim I I' J J' R R') (k : au_K A lim I' I2 J' J2 R' R2) : au_K A lim I I2 J J2 R R2 := ⟨kq_trans h.1 k.1, fun a j h1 h2 h3 => (k.2 a j h1 h2 h3).trans (h.2 a j h1 h2 h3)⟩
theorem e_Au_keep {b : Bool} {l : List Nat} {m : Nat → Bool} {U : au_A} (hL : au_L sh R A lim ad sp) (hG : ly_P sh R g) (hl1 : 1 ≤ lim) (hl : lim ≤ 19) (hW : pg_W P) (dg : g + 3 < A ∨ A + 10 + 3 * lim < g) (hp : pg_R I g P) (hJ : ro_J P (m, l)) (h1 : I (A + 4) 2 = nI l.length) (h2 : ix_R I (A + 5) l) (hR : au_R P I A ad U) (hI : au_I P lim U) (hsf : U.2.2.1 < 3) :
    ∃ I' R' ad' sp', f_Au_keep A (some g) (bI b) (sh, I, J, R, n) = some (oI (au_k lim (tr P l) b U).1, (sh, I', J, R', n)) ∧ au_L sh R' A lim ad' sp' ∧ au_R P I' A ad' (au_k lim (tr P l) b U).2 ∧ au_K A lim I I' J J R R' ∧ ((au_k lim (tr P l) b U).2.2.1 = U.2.1 → ∀ k, k < U.1.length → ad' k = ad k) ∧ (∀ k, R' (A + 1) k = R (A + 1) k) := by
  have hLL := hL
  obtain ⟨l0, lF, lT, l10, r0, r1, r2, r3, rr, o1, o2, o3, o4, o5⟩ := hL
  have hgs := sp_ge o1
  have h25 : l.length ≤ 25 := by have := hJ.1; simp only at this; omega
  obtain ⟨I1, e1, s1, K1⟩ := e_St_fill (I := I) (J := J) (n := n) (b := b) (l := l) (o5 _ o1) lT hG hW (by omega) (by omega) h25 hJ.2 hp h1 h2
  have hR1 : au_R P I1 A ad U := by
    obtain ⟨q1, q2, q3, q4, q5⟩ := hR
    refine ⟨(K1 _ _ (by omega)).trans q1, (K1 _ _ (by omega)).trans q2, (K1 _ _ (by omega)).trans q3, (K1 _ _ (by omega)).trans q4, fun k s hs => ?_⟩
    have hk : k < lim := by have := gl hs; have := hI.1; omega
    have := sp_ne (o2 k hk) o1 (o3 k hk)
    exact st_S_mono (fun c j g1 g2 => K1 _ _ (by omega)) (q5 k s hs)
  have hnI : au_sI P 0 (tr P l, b, fun _ => none) := ⟨Nat.le_trans (tr_len l) h25, fun e he => hJ.2 e (tr_mem l e he), tr_tr l, fun c j h => by cases h⟩
  have e2 := e_Au_kloop (J := J) (n := n) hLL hl hW hR1 hI s1 hnI U.1 [] 100000 (by have := hI.1; omega) rfl
  have e2' : L_Au_keep_18 100000 (some A) (some sp) 0 (sh, I1, J, R, n) = some (match au_i (tr P l) b U.1 0 with | some j => .inr (nI j, (sh, I1, J, R, n)) | none => .inl (sh, I1, J, R, n)) := e2
  have Kq1 : kq_K A (A + 10 + 3 * lim) I I1 J J := fun a k h => ⟨K1 a k (by omega), rfl⟩
  obtain ⟨K, fl, sf, md⟩ := U
  have hlen : K.length ≤ lim := hI.1
  have hsf : sf < 3 := hsf
  obtain ⟨q1, q2, q3, q4, q5⟩ := hR1
  have q1 : I1 A 4 = nI K.length := q1
  have q2 : I1 A 5 = nI fl := q2
  have q3 : I1 A 6 = nI sf := q3
  have q4 : I1 A 7 = nI md := q4
  have q5 : ∀ k s, K[k]? = some s → st_S P I1 (ad k) s := q5
  unfold f_Au_keep
  simp only [ev_ob l0, ev_b, ev_R, r3, ev_ob (o5 _ o1).1, r1, e1, e2']
  unfold au_k
  show ∃ I' R' ad' sp', _ ∧ _ ∧ _ ∧ _ ∧ _ ∧ _
  cases hi : au_i (tr P l) b K 0 with
  | some j =>
    have hi' : au_i (tr P l) b (K, fl, sf, md).1 0 = some j := hi
    simp only [hi', ev_b, Sum.elim_inr]
    exact ⟨I1, R, ad, sp, rfl, hLL, ⟨q1, q2, q3, q4, q5⟩, ⟨Kq1, fun _ _ _ _ _ => rfl⟩, fun _ _ _ => rfl, fun _ => rfl⟩
  | none =>
    have hi' : au_i (tr P l) b (K, fl, sf, md).1 0 = none := hi
    simp only [hi', ev_b, Sum.elim_inl, ev_ob l0, ev_I, q1]
    rw [if_neg (nI_pos (by omega))]
    simp only [ev_R, r2, ev_ar20 l10, ev_b]
    by_cases hc : K.length < lim
    · rw [if_pos (by rw [nI_ltI (by omega) (by omega)]; exact hc), if_pos hc]
      have x1 := ev_ix (N := lim) (k := K.length) hc (by omega)
      simp only [x1, ev_b, ev_sR, ev_R, ev_uk (show (2 : Nat) ≠ 3 by omega), r2, ev_ar20 l10, ev_I, q1, rr _ hc, ev_ob (o5 _ o1).1, ev_sI, ev_us, ev_uk (show (7 : Nat) ≠ 4 by omega), ev_uk (show (4 : Nat) ≠ 7 by omega), q4, nI_1]
      have KI : ∀ a k, (a ≠ A ∨ (k ≠ 4 ∧ k ≠ 7)) → (hv_u (hv_u I1 A 4 (nI (K.length + 1))) A 7 (nI (md + 1))) a k = I1 a k := fun a k h => by
        by_cases ha : a = A
        · rw [ev_uk (by omega), ev_uk (by omega)]
        · rw [ev_ua ha, ev_ua ha]
      have hgk := fun k hk => sp_ge (o2 k hk)
      refine ⟨_, _, _, _, by rw [show nI (K.length + 1) - 1 = nI K.length from by rw [li_1, pk_sub (by omega), Nat.add_sub_cancel]]; rfl, au_L_swap hLL hc, ?_, ⟨kq_trans Kq1 (fun a k h => ⟨KI a k (by omega), rfl⟩), fun a k h1 h2 h3 => by rw [ev_ua h3, ev_ua h1]⟩, fun _ k hk => ?_, fun k => by rw [ev_ua (by omega), ev_ua (by omega)]⟩
      · refine au_R_put o2 o3 hc (st_S_mono (fun c j g1 g2 => KI _ _ (by omega)) s1) (by rw [ev_uk (by omega), ev_us]) (by rw [KI _ _ (by omega)]; exact q2) (by rw [KI _ _ (by omega)]; exact q3) ev_us (fun k s hs => ?_)
        have := hgk k (by have := gl hs; omega)
        exact st_S_mono (fun c j g1 g2 => KI _ _ (by omega)) (q5 k s hs)
      · have hk : k < K.length := hk
        show (if k = K.length then sp else ad k) = ad k
        rw [if_neg (by omega)]
    · rw [if_neg (by rw [nI_ltI (by omega) (by omega)]; exact hc), if_neg hc]
      have KI : ∀ a k, (a ≠ A ∨ (k ≠ 4 ∧ k ≠ 5 ∧ k ≠ 6)) → (hv_u (hv_u (hv_u I1 A 4 0) A 5 (nI (fl + 1))) A 6 (nI (sf + 1))) a k = I1 a k := fun a k h => by
        by_cases ha : a = A
        · rw [ev_uk (by omega), ev_uk (by omega), ev_uk (by omega)]
        · rw [ev_ua ha, ev_ua ha, ev_ua ha]
      have z4 : (hv_u (hv_u (hv_u I1 A 4 0) A 5 (nI (fl + 1))) A 6 (nI (sf + 1))) A 4 = nI 0 := by rw [ev_uk (by omega), ev_uk (by omega), ev_us]; rfl
      have z5 : (hv_u (hv_u (hv_u I1 A 4 0) A 5 (nI (fl + 1))) A 6 (nI (sf + 1))) A 5 = nI (fl + 1) := by rw [ev_uk (by omega), ev_us]
      have z6 : (hv_u (hv_u (hv_u I1 A 4 0) A 5 (nI (fl + 1))) A 6 (nI (sf + 1))) A 6 = nI (sf + 1) := ev_us
      simp only [ev_sI, ev_I, ev_uk (show (5 : Nat) ≠ 4 by omega), ev_uk (show (6 : Nat) ≠ 5 by omega), ev_uk (show (6 : Nat) ≠ 4 by omega), q2, q3, nI_1]
      generalize hv_u (hv_u (hv_u I1 A 4 0) A 5 (nI (fl + 1))) A 6 (nI (sf + 1)) = I2 at KI z4 z5 z6 ⊢
      have z7 : I2 A 7 = nI md := (KI _ _ (by omega)).trans q4
      rw [e_Au_gaveUp l0 z6 (by omega), ev_b]
      by_cases h3 : sf + 1 < 3
      · rw [decide_eq_false (by omega), if_pos (show bI false = 0 by decide), if_pos h3]
        have x0 := ev_ix (N := lim) (k := 0) (by omega) (by omega)
        have h0l : 0 < lim := by omega
        simp only [ev_ob l0, ev_b, ev_R, r2, ev_ar20 l10, ev_I, z4, x0, rr _ h0l, ev_sR, ev_uk (show (2 : Nat) ≠ 3 by omega), ev_ob (o5 _ o1).1, ev_sI, ev_us, ev_uk (show (7 : Nat) ≠ 4 by omega), ev_uk (show (4 : Nat) ≠ 7 by omega), z7, nI_1]
        have KJ : ∀ a k, (a ≠ A ∨ (k ≠ 4 ∧ k ≠ 7)) → (hv_u (hv_u I2 A 4 (nI (0 + 1))) A 7 (nI (md + 1))) a k = I2 a k := fun a k h => by
          by_cases ha : a = A
          · rw [ev_uk (by omega), ev_uk (by omega)]
          · rw [ev_ua ha, ev_ua ha]
        have hput := au_R_put (P := P) (I' := hv_u (hv_u I2 A 4 (nI (0 + 1))) A 7 (nI (md + 1))) (A := A) (r := tr P l) (b := b) (K := []) (fl := fl + 1) (sf := sf + 1) (md := md + 1) o2 o3 h0l (st_S_mono (fun c j g1 g2 => (KJ _ _ (by omega)).trans (KI _ _ (by omega))) s1) (by rw [ev_uk (by omega), ev_us]; rfl) (by rw [KJ _ _ (by omega)]; exact z5) (by rw [KJ _ _ (by omega)]; exact z6) ev_us (fun k s hs => by simp at hs)
        refine ⟨_, _, _, _, by rw [show nI (0 + 1) - 1 = nI 0 from by decide]; rfl, au_L_swap hLL h0l, hput, ⟨kq_trans Kq1 (fun a k h => ⟨(KJ a k (by omega)).trans (KI a k (by omega)), rfl⟩), fun a k h1 h2 h3 => by rw [ev_ua h3, ev_ua h1]⟩, fun h => ?_, fun k => by rw [ev_ua (by omega), ev_ua (by omega)]⟩
        have h : fl + 1 = fl := h
        omega
      · rw [decide_eq_true (by omega), if_neg (show ¬ bI true = 0 by decide), if_neg h3]
        refine ⟨I2, R, ad, sp, rfl, hLL, ⟨z4, z5, z6, z7, fun k s hs => by simp at hs⟩, ⟨kq_trans Kq1 (fun a k h => ⟨KI a k (by omega), rfl⟩), fun _ _ _ _ _ => rfl⟩, fun h => ?_, fun _ => rfl⟩
        have h : fl + 1 = fl := h
        omega
end AU
