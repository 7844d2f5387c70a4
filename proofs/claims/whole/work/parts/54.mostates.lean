/-! THE REFERENCE'S STATES -/
def ks_R (I : Nat → Nat → Int32) (g k : Nat) (s : au_S) : Prop := I (g + 18) k = nI s.1.length ∧ (∀ j e, s.1[j]? = some e → I (g + 19) (64 * k + j) = nI e) ∧ I (g + 20) k = bI s.2.1 ∧ ∀ j, j < 8 → I (g + 21) (8 * k + j) = oI (s.2.2 j)
def kp_R (I : Nat → Nat → Int32) (g lim : Nat) (U : au_A) : Prop := I g 27 = nI U.1.length ∧ I g 28 = nI U.2.1 ∧ I g 29 = nI U.2.2.1 ∧ I g 36 = nI U.2.2.2 ∧ I g 1 = nI lim ∧ ∀ k s, U.1[k]? = some s → ks_R I g k s
theorem ks_mono {I I' : Nat → Nat → Int32} {g k : Nat} {s : au_S} (h25 : s.1.length ≤ 25) (h : ∀ a j, (a = g + 18 ∧ j = k) ∨ (a = g + 19 ∧ 64 * k ≤ j ∧ j < 64 * k + 64) ∨ (a = g + 20 ∧ j = k) ∨ (a = g + 21 ∧ 8 * k ≤ j ∧ j < 8 * k + 8) → I' a j = I a j) (hs : ks_R I g k s) : ks_R I' g k s :=
  ⟨(h _ _ (by omega)).trans hs.1, fun j e he => (h _ _ (by have := gl he; omega)).trans (hs.2.1 j e he), (h _ _ (by omega)).trans hs.2.2.1, fun j hj => (h _ _ (by omega)).trans (hs.2.2.2 j hj)⟩
/-- what work with states may change -/
def sx_K (g : Nat) (I I' : Nat → Nat → Int32) : Prop := ∀ a k, (a ≠ g ∨ (k ≠ 16 ∧ k ≠ 18 ∧ k ≠ 27 ∧ k ≠ 28 ∧ k ≠ 29 ∧ k ≠ 34 ∧ k ≠ 36)) → (a < g + 9 ∨ a = g + 17 ∨ g + 22 < a) → I' a k = I a k
theorem sx_refl {g : Nat} {I : Nat → Nat → Int32} : sx_K g I I := fun _ _ _ _ => rfl
theorem sx_trans {g : Nat} {I I' I2 : Nat → Nat → Int32} (h : sx_K g I I') (k : sx_K g I' I2) : sx_K g I I2 := fun a j h1 h2 => (k a j h1 h2).trans (h a j h1 h2)
theorem sx_fr {g : Nat} {I I' : Nat → Nat → Int32} (h : fr_K g I I') : sx_K g I I' := fun a j h1 h2 => h a j (by omega) (by omega) (by omega)
theorem mo_P_s {g : Nat} {I I' : Nat → Nat → Int32} {P : pg_P} (h : sx_K g I I') (hp : mo_P I g P) : mo_P I' g P := by
  obtain ⟨p0, p1⟩ := hp
  refine ⟨(h _ _ (by omega) (by omega)).trans p0, fun i hi => ?_⟩
  obtain ⟨a, b, c⟩ := p1 i hi
  exact ⟨(h _ _ (by omega) (by omega)).trans a, (h _ _ (by omega) (by omega)).trans b, (h _ _ (by omega) (by omega)).trans c⟩
theorem mo_X_s {g : Nat} {I I' : Nat → Nat → Int32} {T : tx_T} (h : sx_K g I I') (ht : mo_X I g T) : mo_X I' g T :=
  ⟨(h _ _ (by omega) (by omega)).trans ht.1, ht.2.1, fun k hk => ⟨(h _ _ (by omega) (by omega)).trans (ht.2.2 k hk).1, (ht.2.2 k hk).2⟩⟩
theorem kp_fr {P : pg_P} {g lim : Nat} {I I' : Nat → Nat → Int32} {U : au_A} (hI : au_I P lim U) (h : fr_K g I I') (hk : kp_R I g lim U) : kp_R I' g lim U := by
  obtain ⟨h1, h2, h3, h4, h5, h6⟩ := hk
  refine ⟨(h _ _ (by omega) (by omega) (by omega)).trans h1, (h _ _ (by omega) (by omega) (by omega)).trans h2, (h _ _ (by omega) (by omega) (by omega)).trans h3, (h _ _ (by omega) (by omega) (by omega)).trans h4, (h _ _ (by omega) (by omega) (by omega)).trans h5, fun k s hs => ?_⟩
  exact ks_mono (hI.2 s (List.mem_of_getElem? hs)).1 (fun a j q => h _ _ (by omega) (by omega) (by omega)) (h6 k s hs)
/-- stamps up to S, whatever is marked; the slots at hand -/
def sm_R (I : Nat → Nat → Int32) (g S : Nat) : Prop := (∃ S' m, S' ≤ S ∧ mm_R I g S' m) ∧ nw_R I g
section MS
variable {sh : Nat → Option (Nat × Nat)} {I : Nat → Nat → Int32} {J : Nat → Nat → Int64} {R : Nat → Nat → Option Nat} {n g lim : Nat} {P : pg_P} {T : tx_T}
theorem e_Mo_riloop {c : Nat} (hl : ly_M sh R g) (hc : c < 19) : ∀ (r r' p p' : List Nat) (N : Nat), r.length < N → p.length = p'.length → r.length = r'.length → (p ++ r).length ≤ 25 → (∀ e, e ∈ p ++ r → e < 49) → (∀ e, e ∈ p' ++ r' → e < 49) → fr_R I g (p' ++ r') → (∀ j e, (p ++ r)[j]? = some e → I (g + 19) (64 * c + j) = nI e) →
    L_Mo_isRow_32 N (some g) (nI c) 1 (nI p.length) (sh, I, J, R, n) = some (bI (decide (r = r')), (sh, I, J, R, n))
  | r, r', p, p', 0, h, _, _, _, _, _, _, _ => by omega
  | [], r', p, p', N + 1, hN, hl1, hl2, h25, hlt, hlt2, h1, h2 => by
    have : r' = [] := List.length_eq_zero_iff.mp hl2.symm
    subst this
    have h1 := h1.1
    rw [List.append_nil, ← hl1] at h1
    rw [List.append_nil] at h25
    rw [L_Mo_isRow_32]
    simp only [ev_ob (ms_o hl), ev_b, ev_I, h1]
    rw [if_pos (by rw [nI_leI (by omega) (by omega)]; exact Nat.le_refl _)]
    rfl
  | e :: r, [], p, p', N + 1, hN, hl1, hl2, h25, hlt, hlt2, h1, h2 => by simp at hl2
  | e :: r, e' :: r', p, p', N + 1, hN, hl1, hl2, h25, hlt, hlt2, h1, h2 => by
    have hlen : (p ++ e :: r).length = p.length + (r.length + 1) := by simp
    have hlen' : (p' ++ e' :: r').length = p'.length + (r'.length + 1) := by simp
    simp only [List.length_cons] at hl2
    have g1 : I (g + 19) (64 * c + p.length) = nI e := h2 _ _ (by simp)
    have g2 : I (g + 22) p.length = nI e' := h1.2 _ _ (by rw [hl1]; simp)
    have x1 := ev_ix (N := 64) (k := p.length) (by omega) (by omega)
    have x2 := ev_ix (N := 1216) (k := 64 * c + p.length) (by omega) (by omega)
    have b1 := hlt e (by simp)
    have b2 := hlt2 e' (by simp)
    rw [L_Mo_isRow_32]
    simp only [ev_ob (ms_o hl), ev_b, ev_I, h1.1]
    rw [if_neg (by rw [nI_leI (by omega) (by omega)]; omega), if_neg (by decide)]
    simp only [ev_R, mr_31 hl, mr_35 hl, ev_ar0 (ms_19 hl), ev_ar0 (ms_22 hl), li_64, pk_mul, nI_add, ev_b, x1, x2, g1, g2]
    by_cases he : e = e'
    · subst he
      rw [if_pos rfl, ev_b, nI_1]
      have ih := e_Mo_riloop hl hc r r' (p ++ [e]) (p' ++ [e]) N (by simp at hN; omega) (by simp [hl1]) (by omega) (by simpa using h25) (by simpa using hlt) (by simpa using hlt2) (by simpa using h1) (by simpa using h2)
      rw [List.length_append] at ih
      have e0 : decide (e :: r = e :: r') = decide (r = r') := decide_eq_decide.mpr ⟨fun h => by injection h, fun h => by rw [h]⟩
      rw [e0]
      exact ih
    · rw [if_neg (by rw [nI_eq (by omega) (by omega)]; exact he), ev_b]
      rw [decide_eq_false (fun h => he (by injection h))]
      match N, hN with
      | N + 1, hN =>
        rw [L_Mo_isRow_32]
        simp only [ev_ob (ms_o hl), ev_b, ev_I]
        split
        · rfl
        · rw [if_pos trivial]; rfl
      | 0, hN => simp at hN
theorem e_Mo_isRow {c n1 n2 : Nat} {s s' : au_S} (hl : ly_M sh R g) (hW : pg_W P) (hc : c < 19) (h1 : ks_R I g c s) (hfr : fr_R I g s'.1) (i1 : au_sI P n1 s) (i2 : au_sI P n2 s') : f_Mo_isRow g (nI c) (bI s'.2.1) (sh, I, J, R, n) = some (bI (decide (s.1 = s'.1 ∧ s.2.1 = s'.2.1)), (sh, I, J, R, n)) := by
  have h49 := hW.2.1
  have l1 := i1.1
  have l2 := i2.1
  have x1 := ev_ix (N := 19) (k := c) hc (by omega)
  unfold f_Mo_isRow
  simp only [ev_ob (ms_o hl), ev_b, ev_R, mr_30 hl, mr_32 hl, ev_ar0 (ms_18 hl), ev_ar3 (ms_20 hl), x1, ev_I, h1.1, hfr.1, h1.2.2.1]
  have hz : ∀ N, L_Mo_isRow_32 (N + 1) (some g) (nI c) 0 0 (sh, I, J, R, n) = some (0, (sh, I, J, R, n)) := fun N => by
    rw [L_Mo_isRow_32]
    simp only [ev_ob (ms_o hl), ev_b]
    split
    · rfl
    · rw [if_pos trivial]
  by_cases hlen : s.1.length = s'.1.length
  · rw [if_pos (by rw [hlen])]
    by_cases hb : s.2.1 = s'.2.1
    · rw [if_pos (by rw [hb]), ev_b]
      have e1 := e_Mo_riloop (J := J) (n := n) (I := I) hl hc s.1 s'.1 [] [] 100000 (by omega) rfl hlen (by simpa using l1) (fun e he => by have := i1.2.1 e (by simpa using he); omega) (fun e he => by have := i2.2.1 e (by simpa using he); omega) (by simpa using hfr) (by simpa using h1.2.1)
      have e1' : L_Mo_isRow_32 100000 (some g) (nI c) 1 0 (sh, I, J, R, n) = _ := e1
      rw [e1', ev_b, x_zb, ev_b]
      have e2 : decide (s.1 = s'.1) = decide (s.1 = s'.1 ∧ s.2.1 = s'.2.1) := decide_eq_decide.mpr ⟨fun h => ⟨h, hb⟩, fun h => h.1⟩
      rw [e2]
    · rw [if_neg (by rw [bI_eq]; exact hb), ev_b, hz, ev_b, decide_eq_false (fun h => hb h.2)]; rfl
  · rw [if_neg (by rw [nI_eq (by omega) (by omega)]; exact hlen), ev_b, hz, ev_b, decide_eq_false (fun h => hlen (by rw [h.1]))]; rfl
theorem e_Mo_soloop {r : List Nat} {b : Bool} {U : au_A} (hl : ly_M sh R g) (hlim : lim ≤ 19) (hW : pg_W P) (hk : kp_R I g lim U) (hI : au_I P lim U) (hfr : fr_R I g r) (hsI : au_sI P 0 (r, b, fun _ => none)) :
    ∀ (rest pre : List au_S) (N : Nat), rest.length < N → U.1 = pre ++ rest →
    L_Mo_stateOf_2 N (some g) (bI b) (nI pre.length) (sh, I, J, R, n) = some (match au_i r b rest pre.length with | some j => .inr (nI j, (sh, I, J, R, n)) | none => .inl (sh, I, J, R, n))
  | rest, pre, 0, h, _ => by omega
  | [], pre, N + 1, hN, hU => by
    have hlen := hI.1
    rw [L_Mo_stateOf_2]
    simp only [ev_ob (ms_o hl), ev_b, ev_I, hk.1]
    rw [hU, List.append_nil] at hlen ⊢
    rw [if_pos (by rw [nI_leI (by omega) (by omega)]; exact Nat.le_refl _)]
    rfl
  | s :: rest, pre, N + 1, hN, hU => by
    have hlen := hI.1
    have hge : U.1[pre.length]? = some s := by rw [hU]; simp
    have hpl : pre.length < U.1.length := gl hge
    have e1 := e_Mo_isRow (J := J) (n := n) (s' := (r, b, fun _ => none)) hl hW (show pre.length < 19 by omega) (hk.2.2.2.2.2 _ _ hge) hfr (hI.2 s (List.mem_of_getElem? hge)) hsI
    have e1' : f_Mo_isRow g (nI pre.length) (bI b) (sh, I, J, R, n) = some (bI (decide (s.1 = r ∧ s.2.1 = b)), (sh, I, J, R, n)) := e1
    rw [L_Mo_stateOf_2]
    simp only [ev_ob (ms_o hl), ev_b, ev_I, hk.1]
    rw [if_neg (by rw [nI_leI (by omega) (by omega)]; omega), e1', ev_b]
    unfold au_i
    by_cases hq : s.1 = r ∧ s.2.1 = b
    · rw [if_pos hq, decide_eq_true hq, if_neg (show ¬ bI true = 0 by decide)]
    · rw [if_neg hq, decide_eq_false hq, if_pos (show bI false = 0 by decide)]
      have ih := e_Mo_soloop hl hlim hW hk hI hfr hsI rest (pre ++ [s]) N (by simp at hN; omega) (by rw [hU]; simp)
      rw [List.length_append] at ih
      rw [nI_1]
      exact ih
theorem e_Mo_cloop {c : Nat} {r : List Nat} (hl : ly_M sh R g) (hc : c < 19) (h25 : r.length ≤ 25) : ∀ (j N : Nat) (I : Nat → Nat → Int32), j ≤ r.length → j < N → fr_R I g r →
    ∃ I', L_Mo_stateOf_117 N (some g) (nI c) (nI (r.length - j)) (sh, I, J, R, n) = some (sh, I', J, R, n) ∧ (∀ i e, r.length - j ≤ i → r[i]? = some e → I' (g + 19) (64 * c + i) = nI e) ∧ (∀ a k, (a ≠ g + 19 ∨ k < 64 * c + (r.length - j) ∨ 64 * c + 64 ≤ k) → I' a k = I a k)
  | j, 0, _, _, h, _ => by omega
  | 0, N + 1, I, _, _, hf => by
    rw [L_Mo_stateOf_117]
    simp only [ev_ob (ms_o hl), ev_b, ev_I, hf.1]
    rw [if_pos (by rw [nI_leI (by omega) (by omega)]; omega)]
    exact ⟨I, rfl, fun i e h1 h2 => by have := gl h2; omega, fun _ _ _ => rfl⟩
  | j + 1, N + 1, I, hj, hN, hf => by
    have x1 := ev_ix (N := 64) (k := r.length - (j + 1)) (by omega) (by omega)
    have x2 := ev_ix (N := 1216) (k := 64 * c + (r.length - (j + 1))) (by omega) (by omega)
    have hge : r[r.length - (j + 1)]? = some r[r.length - (j + 1)] := List.getElem?_eq_getElem (by omega)
    generalize r[r.length - (j + 1)]'(by omega) = e at hge
    have he := hf.2 _ _ hge
    have hf1 : fr_R (hv_u I (g + 19) (64 * c + (r.length - (j + 1))) (nI e)) g r := ⟨by rw [ev_ua (by omega)]; exact hf.1, fun i e' hi => by rw [ev_ua (by omega)]; exact hf.2 i e' hi⟩
    obtain ⟨I', e1, a1, a2⟩ := e_Mo_cloop hl hc h25 j N (hv_u I (g + 19) (64 * c + (r.length - (j + 1))) (nI e)) (by omega) (by omega) hf1
    rw [show r.length - j = r.length - (j + 1) + 1 from by omega] at e1
    rw [L_Mo_stateOf_117]
    simp only [ev_ob (ms_o hl), ev_b, ev_I, hf.1]
    rw [if_neg (by rw [nI_leI (by omega) (by omega)]; omega)]
    simp only [ev_R, mr_35 hl, mr_31 hl, ev_ar0 (ms_22 hl), ev_ar0 (ms_19 hl), ev_b, x1, li_64, pk_mul, nI_add, x2, ev_sI, he, nI_1, e1]
    refine ⟨I', rfl, fun i e' h1 h2 => ?_, fun a k h => ?_⟩
    · by_cases hi : i = r.length - (j + 1)
      · rw [a2 _ _ (by omega), hi, ev_us]
        rw [hi] at h2
        rw [hge] at h2
        injection h2 with h2
        rw [h2]
      · exact a1 i e' (by omega) h2
    · rw [a2 a k (by omega)]
      rcases h with h | h
      · rw [ev_ua h]
      · rw [ev_uk (by omega)]
theorem e_Mo_dloop {c : Nat} (hl : ly_M sh R g) (hc : c < 19) : ∀ (j N : Nat) (I : Nat → Nat → Int32), j ≤ 8 → j < N →
    ∃ I', L_Mo_stateOf_150 N (some g) (nI c) (nI (8 - j)) (sh, I, J, R, n) = some (sh, I', J, R, n) ∧ (∀ i, 8 - j ≤ i → i < 8 → I' (g + 21) (8 * c + i) = -1) ∧ (∀ a k, (a ≠ g + 21 ∨ k < 8 * c + (8 - j) ∨ 8 * c + 8 ≤ k) → I' a k = I a k)
  | j, 0, _, _, h => by omega
  | 0, N + 1, I, _, _ => by
    rw [L_Mo_stateOf_150, if_pos (by decide)]
    exact ⟨I, rfl, fun i h1 h2 => by omega, fun _ _ _ => rfl⟩
  | j + 1, N + 1, I, hj, hN => by
    have x1 := ev_ix (N := 152) (k := 8 * c + (8 - (j + 1))) (by omega) (by omega)
    obtain ⟨I', e1, a1, a2⟩ := e_Mo_dloop hl hc j N (hv_u I (g + 21) (8 * c + (8 - (j + 1))) (-1)) (by omega) (by omega)
    rw [show 8 - j = 8 - (j + 1) + 1 from by omega] at e1
    rw [L_Mo_stateOf_150, if_neg (by rw [li_8, nI_leI (by omega) (by omega)]; omega)]
    simp only [ev_ob (ms_o hl), ev_b, ev_R, mr_33 hl, ev_ar0 (ms_21 hl), li_8, pk_mul, nI_add, x1, ev_sI, nI_1, e1]
    refine ⟨I', rfl, fun i h1 h2 => ?_, fun a k h => ?_⟩
    · by_cases hi : i = 8 - (j + 1)
      · rw [a2 _ _ (by omega), hi, ev_us]
      · exact a1 i (by omega) h2
    · rw [a2 a k (by omega)]
      rcases h with h | h
      · rw [ev_ua h]
      · rw [ev_uk (by omega)]
/-- the new state written at place c -/
theorem e_Mo_put {c md : Nat} {r : List Nat} {b : Bool} {K : List au_S} {fl sf : Nat} (hl : ly_M sh R g) (hlim : lim ≤ 19) (hc : K.length = c) (hcl : c < lim) (h25 : r.length ≤ 25) (hK25 : ∀ s, s ∈ K → s.1.length ≤ 25) (hf : fr_R I g r) (h28 : I g 28 = nI fl) (h29 : I g 29 = nI sf) (h36 : I g 36 = nI md) (h1 : I g 1 = nI lim) (hk : ∀ k s, K[k]? = some s → ks_R I g k s) :
    ∃ I', ((some (hv_setI (sh, I, J, R, n) g 27 (nI c + (1 : Int32)))).bind fun s5 => (some (hv_setI s5 g 36 ((hv_I s5 g 36) + (1 : Int32)))).bind fun s6 => (x_ar s6 0 (hv_R s6 g 30)).bind fun q7 => (x_ix q7.2 (nI c)).bind fun k8 => (some (hv_setI s6 q7.1 k8 (hv_I s6 g 34))).bind fun s9 => (x_ar s9 3 (hv_R s9 g 32)).bind fun q10 => (x_ix q10.2 (nI c)).bind fun k11 => (some (hv_setI s9 q10.1 k11 (vp_nar .boolean (bI b)))).bind fun s12 => (L_Mo_stateOf_117 100000 (some g) (nI c) 0 s12).bind fun e19 => (L_Mo_stateOf_150 100000 (some g) (nI c) 0 e19).bind fun e24 => some (nI c, e24)) = some (nI c, (sh, I', J, R, n)) ∧ kp_R I' g lim (K ++ [(r, b, fun _ => none)], fl, sf, md + 1) ∧ (∀ a k, (a ≠ g ∨ (k ≠ 27 ∧ k ≠ 36)) → (a < g + 18 ∨ g + 21 < a) → I' a k = I a k) := by
  subst hc
  have nb : vp_nar .boolean (bI b) = bI b := by cases b <;> decide
  have x1 := ev_ix (N := 19) (k := K.length) (by omega) (by omega)
  have hI0 : ∀ a k, (a ≠ g ∨ (k ≠ 27 ∧ k ≠ 36)) → (a ≠ g + 18 ∨ k ≠ K.length) → (a ≠ g + 20 ∨ k ≠ K.length) → (hv_u (hv_u (hv_u (hv_u I g 27 (nI (K.length + 1))) g 36 (nI (md + 1))) (g + 18) K.length (nI r.length)) (g + 20) K.length (bI b)) a k = I a k := fun a k q1 q2 q3 => by
    have e1 : ∀ f : Nat → Nat → Int32, ∀ v, (hv_u f (g + 20) K.length v) a k = f a k := fun f v => by
      rcases q3 with h | h
      · rw [ev_ua h]
      · rw [ev_uk h]
    have e2 : ∀ f : Nat → Nat → Int32, ∀ v, (hv_u f (g + 18) K.length v) a k = f a k := fun f v => by
      rcases q2 with h | h
      · rw [ev_ua h]
      · rw [ev_uk h]
    rw [e1, e2]
    by_cases ha : a = g
    · rw [ev_uk (by omega), ev_uk (by omega)]
    · rw [ev_ua ha, ev_ua ha]
  have z27 : (hv_u (hv_u (hv_u (hv_u I g 27 (nI (K.length + 1))) g 36 (nI (md + 1))) (g + 18) K.length (nI r.length)) (g + 20) K.length (bI b)) g 27 = nI (K.length + 1) := by rw [ev_ua (by omega), ev_ua (by omega), ev_uk (by omega), ev_us]
  have z36 : (hv_u (hv_u (hv_u (hv_u I g 27 (nI (K.length + 1))) g 36 (nI (md + 1))) (g + 18) K.length (nI r.length)) (g + 20) K.length (bI b)) g 36 = nI (md + 1) := by rw [ev_ua (by omega), ev_ua (by omega), ev_us]
  have z18 : (hv_u (hv_u (hv_u (hv_u I g 27 (nI (K.length + 1))) g 36 (nI (md + 1))) (g + 18) K.length (nI r.length)) (g + 20) K.length (bI b)) (g + 18) K.length = nI r.length := by rw [ev_ua (by omega), ev_us]
  have z20 : (hv_u (hv_u (hv_u (hv_u I g 27 (nI (K.length + 1))) g 36 (nI (md + 1))) (g + 18) K.length (nI r.length)) (g + 20) K.length (bI b)) (g + 20) K.length = bI b := ev_us
  simp only [ev_b, ev_sI, ev_I, ev_R, mr_30 hl, mr_32 hl, ev_ar0 (ms_18 hl), ev_ar3 (ms_20 hl), x1, nb, nI_1, ev_uk (show (36 : Nat) ≠ 27 by omega), ev_uk (show (34 : Nat) ≠ 36 by omega), ev_uk (show (34 : Nat) ≠ 27 by omega), h36, hf.1]
  generalize hv_u (hv_u (hv_u (hv_u I g 27 (nI (K.length + 1))) g 36 (nI (md + 1))) (g + 18) K.length (nI r.length)) (g + 20) K.length (bI b) = I1 at hI0 z27 z36 z18 z20 ⊢
  obtain ⟨I2, e2, a2, k2⟩ := e_Mo_cloop (J := J) (n := n) hl (show K.length < 19 by omega) h25 r.length 100000 I1 (Nat.le_refl _) (by omega) ⟨(hI0 _ _ (by omega) (by omega) (by omega)).trans hf.1, fun j e he => (hI0 _ _ (by omega) (by omega) (by omega)).trans (hf.2 j e he)⟩
  rw [Nat.sub_self] at e2 a2 k2
  have e2' : L_Mo_stateOf_117 100000 (some g) (nI K.length) 0 (sh, I1, J, R, n) = some (sh, I2, J, R, n) := e2
  obtain ⟨I3, e3, a3, k3⟩ := e_Mo_dloop (J := J) (n := n) hl (show K.length < 19 by omega) 8 100000 I2 (Nat.le_refl _) (by omega)
  have e3' : L_Mo_stateOf_150 100000 (some g) (nI K.length) 0 (sh, I2, J, R, n) = some (sh, I3, J, R, n) := e3
  rw [e2', ev_b, e3', ev_b]
  have k3 : ∀ a k, (a ≠ g + 21 ∨ k < 8 * K.length ∨ 8 * K.length + 8 ≤ k) → I3 a k = I2 a k := fun a k h => k3 a k (by omega)
  have k2 : ∀ a k, (a ≠ g + 19 ∨ k < 64 * K.length ∨ 64 * K.length + 64 ≤ k) → I2 a k = I1 a k := fun a k h => k2 a k (by omega)
  refine ⟨I3, rfl, ⟨?_, ?_, ?_, ?_, ?_, fun k s hs => ?_⟩, fun a k h1 h2 => ?_⟩
  · rw [k3 _ _ (by omega), k2 _ _ (by omega), z27]; simp
  · rw [k3 _ _ (by omega), k2 _ _ (by omega), hI0 _ _ (by omega) (by omega) (by omega)]; exact h28
  · rw [k3 _ _ (by omega), k2 _ _ (by omega), hI0 _ _ (by omega) (by omega) (by omega)]; exact h29
  · rw [k3 _ _ (by omega), k2 _ _ (by omega), z36]
  · rw [k3 _ _ (by omega), k2 _ _ (by omega), hI0 _ _ (by omega) (by omega) (by omega)]; exact h1
  · have hs : (K ++ [(r, b, fun _ => none)])[k]? = some s := hs
    rcases Nat.lt_trichotomy k K.length with h | h | h
    · rw [List.getElem?_append_left h] at hs
      refine ks_mono (hK25 s (List.mem_of_getElem? hs)) (fun a j q => ?_) (hk k s hs)
      rw [k3 _ _ (by omega), k2 _ _ (by omega), hI0 _ _ (by omega) (by omega) (by omega)]
    · subst h
      simp at hs
      subst hs
      refine ⟨?_, fun j e he => ?_, ?_, fun j hj => ?_⟩
      · rw [k3 _ _ (by omega), k2 _ _ (by omega)]; exact z18
      · rw [k3 _ _ (by omega)]; exact a2 j e (by omega) he
      · rw [k3 _ _ (by omega), k2 _ _ (by omega)]; exact z20
      · rw [a3 j (by omega) hj]; rfl
    · rw [List.getElem?_eq_none (by simp; omega)] at hs; cases hs
  · rw [k3 _ _ (by omega), k2 _ _ (by omega), hI0 _ _ (by omega) (by omega) (by omega)]
theorem e_Mo_stateOf {b : Bool} {l : List Nat} {m : Nat → Bool} {U : au_A} (hl : ly_M sh R g) (hl1 : 1 ≤ lim) (hlim : lim ≤ 19) (hW : pg_W P) (hJ : ro_J P (m, l)) (hf : fr_R I g (tr P l)) (hk : kp_R I g lim U) (hI : au_I P lim U) (hsf : U.2.2.1 < 3) :
    ∃ I', f_Mo_stateOf g (bI b) (sh, I, J, R, n) = some (oI (au_k lim (tr P l) b U).1, (sh, I', J, R, n)) ∧ kp_R I' g lim (au_k lim (tr P l) b U).2 ∧ (∀ a k, (a ≠ g ∨ (k ≠ 27 ∧ k ≠ 28 ∧ k ≠ 29 ∧ k ≠ 36)) → (a < g + 18 ∨ g + 21 < a) → I' a k = I a k) := by
  have h25 : l.length ≤ 25 := by have := hJ.1; simp only at this; omega
  have h25' : (tr P l).length ≤ 25 := Nat.le_trans (tr_len l) h25
  have hnI : au_sI P 0 (tr P l, b, fun _ => none) := ⟨h25', fun e he => hJ.2 e (tr_mem l e he), tr_tr l, fun c j h => by cases h⟩
  have e2 := e_Mo_soloop (J := J) (n := n) hl hlim hW hk hI hf hnI U.1 [] 100000 (by have := hI.1; omega) rfl
  have e2' : L_Mo_stateOf_2 100000 (some g) (bI b) 0 (sh, I, J, R, n) = some (match au_i (tr P l) b U.1 0 with | some j => .inr (nI j, (sh, I, J, R, n)) | none => .inl (sh, I, J, R, n)) := e2
  obtain ⟨K, fl, sf, md⟩ := U
  have hlen : K.length ≤ lim := hI.1
  have hsf : sf < 3 := hsf
  have hkk := hk
  obtain ⟨q1, q2, q3, q4, q5, q6⟩ := hk
  have q1 : I g 27 = nI K.length := q1
  have q2 : I g 28 = nI fl := q2
  have q3 : I g 29 = nI sf := q3
  have q4 : I g 36 = nI md := q4
  have q6 : ∀ k s, K[k]? = some s → ks_R I g k s := q6
  have hK25 : ∀ s, s ∈ K → s.1.length ≤ 25 := fun s hs => (hI.2 s hs).1
  unfold f_Mo_stateOf
  rw [e2', ev_b]
  unfold au_k
  cases hi : au_i (tr P l) b K 0 with
  | some j =>
    have hi' : au_i (tr P l) b (K, fl, sf, md).1 0 = some j := hi
    simp only [hi', Sum.elim_inr]
    exact ⟨I, rfl, hkk, fun _ _ _ _ => rfl⟩
  | none =>
    have hi' : au_i (tr P l) b (K, fl, sf, md).1 0 = none := hi
    simp only [hi', Sum.elim_inl, ev_ob (ms_o hl), ev_b, ev_I, q1, q5]
    by_cases hc : K.length < lim
    · rw [if_neg (by rw [nI_eq (by omega) (by omega)]; omega), if_pos hc]
      obtain ⟨I1, e1, k1, K1⟩ := e_Mo_put (J := J) (n := n) (b := b) hl hlim rfl hc h25' hK25 hf q2 q3 q4 q5 q6
      simp only [ev_b, ev_I] at e1
      rw [e1]
      exact ⟨I1, rfl, k1, fun a k h1 h2 => K1 a k (by omega) h2⟩
    · rw [if_pos (by rw [show K.length = lim from by omega]), if_neg hc]
      have KI : ∀ a k, (a ≠ g ∨ (k ≠ 27 ∧ k ≠ 28 ∧ k ≠ 29)) → (hv_u (hv_u (hv_u I g 27 0) g 28 (nI (fl + 1))) g 29 (nI (sf + 1))) a k = I a k := fun a k h => by
        by_cases ha : a = g
        · rw [ev_uk (by omega), ev_uk (by omega), ev_uk (by omega)]
        · rw [ev_ua ha, ev_ua ha, ev_ua ha]
      have z4 : (hv_u (hv_u (hv_u I g 27 0) g 28 (nI (fl + 1))) g 29 (nI (sf + 1))) g 27 = nI 0 := by rw [ev_uk (by omega), ev_uk (by omega), ev_us]; rfl
      have z5 : (hv_u (hv_u (hv_u I g 27 0) g 28 (nI (fl + 1))) g 29 (nI (sf + 1))) g 28 = nI (fl + 1) := by rw [ev_uk (by omega), ev_us]
      have z6 : (hv_u (hv_u (hv_u I g 27 0) g 28 (nI (fl + 1))) g 29 (nI (sf + 1))) g 29 = nI (sf + 1) := ev_us
      simp only [ev_sI, ev_I, ev_b, ev_uk (show (28 : Nat) ≠ 27 by omega), ev_uk (show (29 : Nat) ≠ 28 by omega), ev_uk (show (29 : Nat) ≠ 27 by omega), ev_uk (show (27 : Nat) ≠ 29 by omega), ev_uk (show (27 : Nat) ≠ 28 by omega), ev_us, q2, q3, nI_1]
      by_cases h3 : sf + 1 < 3
      · rw [if_neg (by rw [li_3, nI_eq (by omega) (by omega)]; omega), if_pos h3]
        generalize hv_u (hv_u (hv_u I g 27 0) g 28 (nI (fl + 1))) g 29 (nI (sf + 1)) = I2 at KI z4 z5 z6 ⊢
        obtain ⟨I3, e3, k3, K3⟩ := e_Mo_put (J := J) (n := n) (I := I2) (lim := lim) (c := 0) (K := []) (b := b) (r := tr P l) (fl := fl + 1) (sf := sf + 1) (md := md) hl hlim rfl (by omega) h25' (fun s hs => by cases hs) ⟨(KI _ _ (by omega)).trans hf.1, fun j e he => (KI _ _ (by omega)).trans (hf.2 j e he)⟩ z5 z6 ((KI _ _ (by omega)).trans q4) ((KI _ _ (by omega)).trans q5) (fun k s hs => by simp at hs)
        simp only [ev_b, ev_I, ev_sI] at e3
        have e3' := e3
        rw [show nI 0 = 0 from rfl] at e3'
        rw [e3']
        exact ⟨I3, rfl, k3, fun a k h1 h2 => (K3 a k (by omega) h2).trans (KI a k (by omega))⟩
      · rw [if_pos (by rw [show sf = 2 from by omega]; rfl), if_neg h3]
        exact ⟨_, rfl, ⟨z4, z5, z6, (KI _ _ (by omega)).trans q4, (KI _ _ (by omega)).trans q5, fun k s hs => by simp at hs⟩, fun a k h1 h2 => KI a k (by omega)⟩
end MS
