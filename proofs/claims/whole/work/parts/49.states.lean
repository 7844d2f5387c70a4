/-! THE CLASS'S STATES AND AUTOMATON -/
def oI : Option Nat → Int32
  | none => -1
  | some j => nI j
theorem x_zb (b : Bool) : x_z (bI b) = some (bI b) := by cases b <;> rfl
def ix_R (I : Nat → Nat → Int32) (a : Nat) (l : List Nat) : Prop := ∀ k e, l[k]? = some e → I a k = nI e
def st_S (P : pg_P) (I : Nat → Nat → Int32) (a : Nat) (s : au_S) : Prop := I a 2 = nI s.1.length ∧ I a 3 = bI s.2.1 ∧ I a 4 = bI (hf P s.1) ∧ ix_R I (a + 1) s.1 ∧ ∀ j, j < 8 → I (a + 2) j = oI (s.2.2 j)
theorem st_S_mono {P : pg_P} {I I' : Nat → Nat → Int32} {a : Nat} {s : au_S} (h : ∀ b k, a ≤ b → b ≤ a + 2 → I' b k = I b k) (hs : st_S P I a s) : st_S P I' a s :=
  ⟨(h _ _ (by omega) (by omega)).trans hs.1, (h _ _ (by omega) (by omega)).trans hs.2.1, (h _ _ (by omega) (by omega)).trans hs.2.2.1, fun k e he => (h _ _ (by omega) (by omega)).trans (hs.2.2.2.1 k e he), fun j hj => (h _ _ (by omega) (by omega)).trans (hs.2.2.2.2 j hj)⟩
def ly_S (sh : Nat → Option (Nat × Nat)) (R : Nat → Nat → Option Nat) (a : Nat) : Prop := sh a = some (10, 0) ∧ sh (a + 1) = some (1000, 25) ∧ sh (a + 2) = some (1000, 8) ∧ R a 0 = some (a + 1) ∧ R a 1 = some (a + 2)
def sp_ok (A lim a : Nat) : Prop := a = A + 7 ∨ ∃ i, i < lim ∧ a = A + 11 + 3 * i
theorem sp_ge {A lim a : Nat} (h : sp_ok A lim a) : A + 7 ≤ a ∧ a ≠ A + 10 ∧ a + 1 ≠ A + 10 ∧ a + 2 ≠ A + 10 ∧ a + 2 ≤ A + 10 + 3 * lim := by
  rcases h with h | ⟨i, h1, h2⟩ <;> omega
theorem sp_ne {A lim a b : Nat} (h : sp_ok A lim a) (k : sp_ok A lim b) (d : a ≠ b) : a + 2 < b ∨ b + 2 < a := by
  rcases h with h | ⟨i, h1, h2⟩ <;> rcases k with k | ⟨j, k1, k2⟩ <;> omega
def au_L (sh : Nat → Option (Nat × Nat)) (R : Nat → Nat → Option Nat) (A lim : Nat) (ad : Nat → Nat) (sp : Nat) : Prop := sh A = some (9, 0) ∧ ly_F sh R (A + 1) ∧ ly_T sh R (A + 4) ∧ sh (A + 10) = some (1020, lim) ∧ R A 0 = some (A + 1) ∧ R A 1 = some (A + 4) ∧ R A 2 = some (A + 10) ∧ R A 3 = some sp ∧ (∀ k, k < lim → R (A + 10) k = some (ad k)) ∧ sp_ok A lim sp ∧ (∀ k, k < lim → sp_ok A lim (ad k)) ∧ (∀ k, k < lim → ad k ≠ sp) ∧ (∀ j k, j < lim → k < lim → ad j = ad k → j = k) ∧ (∀ a, sp_ok A lim a → ly_S sh R a)
def au_R (P : pg_P) (I : Nat → Nat → Int32) (A : Nat) (ad : Nat → Nat) (U : au_A) : Prop := I A 4 = nI U.1.length ∧ I A 5 = nI U.2.1 ∧ I A 6 = nI U.2.2.1 ∧ I A 7 = nI U.2.2.2 ∧ ∀ k s, U.1[k]? = some s → st_S P I (ad k) s
theorem gl {α : Type} {l : List α} {k : Nat} {e : α} (h : l[k]? = some e) : k < l.length := by
  rcases Nat.lt_or_ge k l.length with hh | hh
  · exact hh
  · rw [List.getElem?_eq_none hh] at h; cases h
/-- a follower whose list, without its slots, is s -/
def fx_R (I : Nat → Nat → Int32) (J : Nat → Nat → Int64) (f t : Nat) (s : ro_T) : Prop := ∃ z : fo_T, er2 z = s ∧ fo_R I J f t ([], z)
section SA
variable {sh : Nat → Option (Nat × Nat)} {I I' : Nat → Nat → Int32} {J J' : Nat → Nat → Int64} {R : Nat → Nat → Option Nat} {n g x A lim sp f t : Nat} {ad : Nat → Nat} {P : pg_P} {T : tx_T}
theorem au_R_mono {U : au_A} (hU : U.1.length ≤ lim) (had : ∀ k, k < lim → sp_ok A lim (ad k)) (h : ∀ a k, (a = A ∨ A + 7 ≤ a) → I' a k = I a k) (hR : au_R P I A ad U) : au_R P I' A ad U := by
  obtain ⟨h1, h2, h3, h4, h5⟩ := hR
  refine ⟨(h _ _ (by omega)).trans h1, (h _ _ (by omega)).trans h2, (h _ _ (by omega)).trans h3, (h _ _ (by omega)).trans h4, fun k s hs => ?_⟩
  have := (sp_ge (had k (by have := gl hs; omega))).1
  exact st_S_mono (fun b j q1 q2 => h _ _ (by omega)) (h5 k s hs)
theorem fx_ls {s : ro_T} (h : fx_R I J f t s) : I t 2 = nI s.2.length ∧ ix_R I (t + 1) s.2 := by
  obtain ⟨z, rfl, -, -, -, -, h1, h2⟩ := h
  refine ⟨by rw [h1]; simp [er2], fun k e he => ?_⟩
  unfold er2 at he
  simp only [List.getElem?_map] at he
  match hz : z.2.2[k]?, he with
  | some e', he =>
    have he : some e'.1 = some e := he
    injection he with he
    rw [(h2 k e' hz).1, he]
  | none, he => cases he
theorem e_Fo_followR {i pl ru : Nat} {w : Int64} {s : ro_T} (hC : fo_C sh R f t g) (hp : pg_R I g P) (hW : pg_W P) (hpl : I f 7 = nI pl) (hru : I f 8 = nI ru) (hb : pl < 31) (hb2 : ru < 3) (hi : i < P.1) (hJ : ro_J P s) (h : fx_R I J f t s) :
    ∃ I' J', f_Fo_follow f (nI i) w (sh, I, J, R, n) = some (sh, I', J', R, n) ∧ fx_R I' J' f t (ro_F P pl ru i s) ∧ fo_K f t I I' J J' := by
  obtain ⟨z, hz, h⟩ := h
  subst hz
  obtain ⟨I1, J1, e1, R1, K1⟩ := e_Fo_follow (n := n) (w := w) hC hp hW hpl hru hb hb2 hi (er_J hJ) h
  exact ⟨I1, J1, e1, ⟨_, er_F, R1⟩, K1⟩
theorem e_Pr_takesL {i c : Nat} (hl : ly_P sh R g) (hp : pg_R I g P) (hW : pg_W P) (hc : c < 8) (hi : i < P.1) : f_Pr_takes g (nI i) (nI c) (sh, I, J, R, n) = some (bI (tkl P c i), (sh, I, J, R, n)) := by
  have := e_Pr_takes (J := J) (n := n) (T := (1, fun _ => c)) (p := 0) hl hp hW (fun k hk => hc) hi
  rw [if_pos (show 0 < 1 by omega)] at this
  rw [this]
  have e : tk P (1, fun _ => c) i 0 = tkl P c i := by
    unfold tk tkl
    exact decide_eq_decide.mpr ⟨fun h => h.2, fun h => ⟨show 0 < 1 by omega, h⟩⟩
  rw [e]
theorem e_Ar_fillI {a K : Nat} {w : Int32} (hs : sh a = some (1000, K)) (hK : K < 90000) : ∃ I', f_Ar_fillI (some a) w (sh, I, J, R, n) = some (sh, I', J, R, n) ∧ (∀ k, k < K → I' a k = w) ∧ (∀ b k, b ≠ a → I' b k = I b k) := by
  have H : ∀ (j N : Nat) (I : Nat → Nat → Int32), j ≤ K → j < N → ∃ I', L_Ar_fillI_5 N (some a) w (nI (K - j)) (nI K) (sh, I, J, R, n) = some (sh, I', J, R, n) ∧ (∀ k, K - j ≤ k → k < K → I' a k = w) ∧ (∀ b k, (b ≠ a ∨ k < K - j) → I' b k = I b k) := by
    intro j
    induction j with
    | zero =>
      intro N I _ hN
      match N with
      | 0 => omega
      | N + 1 =>
        rw [L_Ar_fillI_5, if_pos (by rw [nI_leI (by omega) (by omega)]; omega)]
        exact ⟨I, rfl, fun k h1 h2 => by omega, fun b k _ => rfl⟩
    | succ j ih =>
      intro N I hj hN
      match N with
      | 0 => omega
      | N + 1 =>
        rw [L_Ar_fillI_5, if_neg (by rw [nI_leI (by omega) (by omega)]; omega), ev_ar0 hs]
        have x1 := ev_ix (N := K) (k := K - (j + 1)) (by omega) (by omega)
        simp only [ev_b, x1, ev_sI, nI_1]
        rw [show K - (j + 1) + 1 = K - j from by omega]
        obtain ⟨I', e1, a1, a2⟩ := ih N (hv_u I a (K - (j + 1)) w) (by omega) (by omega)
        refine ⟨I', e1, fun k h1 h2 => ?_, fun b k h => ?_⟩
        · by_cases e : k = K - (j + 1)
          · rw [a2 a k (by omega), e, ev_us]
          · exact a1 k (by omega) h2
        · rw [a2 b k (by omega)]
          rcases h with h | h
          · rw [ev_ua h]
          · rw [ev_uk (by omega)]
  obtain ⟨I', e1, a1, a2⟩ := H K 100000 I (Nat.le_refl _) (by omega)
  rw [Nat.sub_self] at e1 a1 a2
  refine ⟨I', ?_, fun k hk => a1 k (Nat.zero_le _) hk, fun b k h => a2 b k (Or.inl h)⟩
  unfold f_Ar_fillI
  rw [ev_ar0 hs, ev_b]
  have e1' : L_Ar_fillI_5 100000 (some a) w 0 (nI K) (sh, I, J, R, n) = some (sh, I', J, R, n) := e1
  rw [e1', ev_b]
theorem e_St_floop {a : Nat} (hS : ly_S sh R a) (hT : ly_T sh R t) (hG : ly_P sh R g) (hW : pg_W P) (d1 : t + 2 < a ∨ a + 2 < t) (d2 : g + 3 < a ∨ a + 2 < g) :
    ∀ (rest pre : List Nat) (N : Nat) (I : Nat → Nat → Int32), rest.length < N → (pre ++ rest).length ≤ 25 → (∀ e, e ∈ rest → e < P.1) → pg_R I g P → I t 2 = nI (pre ++ rest).length → ix_R I (t + 1) (pre ++ rest) → I a 2 = nI pre.length → I a 4 = 0 → ix_R I (a + 1) pre →
    ∃ I', L_St_fill_26 N (some a) (some g) (some t) (nI pre.length) (sh, I, J, R, n) = some (sh, I', J, R, n) ∧ I' a 2 = nI (pre ++ tr P rest).length ∧ I' a 4 = bI (hf P rest) ∧ ix_R I' (a + 1) (pre ++ tr P rest) ∧ (∀ b k, b ≠ a + 1 → (b ≠ a ∨ (k ≠ 2 ∧ k ≠ 4)) → I' b k = I b k)
  | rest, pre, 0, _, h, _, _, _, _, _, _, _, _ => by omega
  | [], pre, N + 1, I, hN, h25, hlt, hp, h1, h2, h3, h4, h5 => by
    rw [L_St_fill_26]
    simp only [ev_ob hT.1, ev_b, e_TL_size hT h1]
    rw [List.append_nil, if_pos (by rw [List.append_nil] at h25; rw [nI_leI (by omega) (by omega)]; exact Nat.le_refl _)]
    exact ⟨I, rfl, by simpa [tr] using h3, h4, by simpa [tr] using h5, fun _ _ _ _ => rfl⟩
  | e :: r, pre, N + 1, I, hN, h25, hlt, hp, h1, h2, h3, h4, h5 => by
    obtain ⟨s0, s1, s2, r0, r1⟩ := hS
    have he : e < P.1 := hlt e List.mem_cons_self
    have hlen : (pre ++ e :: r).length = pre.length + (r.length + 1) := by simp
    have hge : (pre ++ e :: r)[pre.length]? = some e := by simp
    have hee : I (t + 1) pre.length = nI e := h2 _ _ hge
    have ei := e_TL_instructionAt (J := J) (n := n) (i := pre.length) hT h1 h25 (by omega)
    rw [hee] at ei
    have x1 := ev_ix (N := 25) (k := pre.length) (by omega) (by omega)
    rw [L_St_fill_26]
    simp only [ev_ob hT.1, ev_b, e_TL_size hT h1]
    rw [if_neg (by rw [nI_leI (by omega) (by omega)]; omega), if_neg (by rw [li_25, nI_leI (by omega) (by omega)]; omega)]
    simp only [ev_ob s0, ev_b, ev_I, h4]
    rw [if_pos trivial]
    have K1 : ∀ b k, b ≠ a + 1 → (hv_u I (a + 1) pre.length (nI e)) b k = I b k := fun b k h => by rw [ev_ua h]
    have hp1 : pg_R (hv_u I (a + 1) pre.length (nI e)) g P := by
      obtain ⟨p0, p1, p2⟩ := hp
      refine ⟨(K1 _ _ (by omega)).trans p0, p1, fun i hi => ?_⟩
      obtain ⟨q1, q2, q3⟩ := p2 i hi
      exact ⟨(K1 _ _ (by omega)).trans q1, (K1 _ _ (by omega)).trans q2, (K1 _ _ (by omega)).trans q3⟩
    simp only [ei, ev_b, ev_R, r0, ev_ar0 s1, x1, ev_sI, ev_ob s0, ev_I, ev_us, ev_ob hG.1, e_Pr_kindAt hG hp1 he]
    have hk7 := (hW.2.2.1 e he).1
    have ht20 : ((if nI (P.2.1 e) = 7 then some 1 else some 0) : Option Int32) = some (bI (decide (P.2.1 e = 7))) := by
      by_cases hk : P.2.1 e = 7
      · rw [if_pos (by rw [hk]; rfl), decide_eq_true hk]; rfl
      · rw [if_neg (by rw [li_7, nI_eq (by omega) (by omega)]; exact hk), decide_eq_false hk]; rfl
    rw [ht20]
    simp only [ev_b, ev_ob s0, x_zb, ev_sI, ev_I, ev_uk (show (2 : Nat) ≠ 4 by omega), ev_ua (show a ≠ a + 1 by omega), h3, nI_1]
    have K2 : ∀ b k, b ≠ a + 1 → (b ≠ a ∨ (k ≠ 2 ∧ k ≠ 4)) → (hv_u (hv_u (hv_u I (a + 1) pre.length (nI e)) a 4 (bI (decide (P.2.1 e = 7)))) a 2 (nI (pre.length + 1))) b k = I b k := fun b k h1 h2 => by
      by_cases hb : b = a
      · subst hb
        rw [ev_uk (by omega), ev_uk (by omega), ev_ua h1]
      · rw [ev_ua hb, ev_ua hb, ev_ua h1]
    have q2 : (hv_u (hv_u (hv_u I (a + 1) pre.length (nI e)) a 4 (bI (decide (P.2.1 e = 7)))) a 2 (nI (pre.length + 1))) a 2 = nI (pre ++ [e]).length := by rw [ev_us]; simp
    have q4 : (hv_u (hv_u (hv_u I (a + 1) pre.length (nI e)) a 4 (bI (decide (P.2.1 e = 7)))) a 2 (nI (pre.length + 1))) a 4 = bI (decide (P.2.1 e = 7)) := by rw [ev_uk (by omega), ev_us]
    have q5 : ix_R (hv_u (hv_u (hv_u I (a + 1) pre.length (nI e)) a 4 (bI (decide (P.2.1 e = 7)))) a 2 (nI (pre.length + 1))) (a + 1) (pre ++ [e]) := fun k e' he' => by
      rw [ev_ua (by omega), ev_ua (by omega)]
      rcases Nat.lt_trichotomy k pre.length with hk | hk | hk
      · rw [List.getElem?_append_left hk] at he'
        rw [ev_uk (by omega)]; exact h5 k e' he'
      · subst hk
        simp at he'
        subst he'
        rw [ev_us]
      · rw [List.getElem?_eq_none (by simp; omega)] at he'; cases he'
    generalize hv_u (hv_u (hv_u I (a + 1) pre.length (nI e)) a 4 (bI (decide (P.2.1 e = 7)))) a 2 (nI (pre.length + 1)) = I1 at K2 q2 q4 q5 ⊢
    have hp2 : pg_R I1 g P := by
      obtain ⟨p0, p1, p2⟩ := hp
      refine ⟨(K2 _ _ (by omega) (by omega)).trans p0, p1, fun i hi => ?_⟩
      obtain ⟨q1, q2, q3⟩ := p2 i hi
      exact ⟨(K2 _ _ (by omega) (by omega)).trans q1, (K2 _ _ (by omega) (by omega)).trans q2, (K2 _ _ (by omega) (by omega)).trans q3⟩
    have hap : pre ++ e :: r = (pre ++ [e]) ++ r := by simp
    have t1 : I1 t 2 = nI (pre ++ [e] ++ r).length := by rw [K2 _ _ (by omega) (by omega), h1, hap]
    have t2 : ix_R I1 (t + 1) (pre ++ [e] ++ r) := fun k e' he' => by rw [K2 _ _ (by omega) (by omega)]; exact h2 k e' (by rw [hap]; exact he')
    by_cases hk : P.2.1 e = 7
    · -- found: the next turn ends
      rw [tr_c, if_pos hk, hf_c, decide_eq_true hk, Bool.true_or]
      rw [decide_eq_true hk] at q4
      refine ⟨I1, ?_, q2, q4, q5, K2⟩
      match N, hN with
      | N + 1, hN =>
        rw [L_St_fill_26]
        simp only [ev_ob hT.1, ev_b, e_TL_size hT t1, ev_ob s0, ev_I, q4]
        rw [if_neg (show ¬ bI true = 0 by decide)]
        split
        · rfl
        · split <;> rfl
      | 0, hN => simp at hN
    · rw [tr_c, if_neg hk, hf_c, decide_eq_false hk, Bool.false_or]
      rw [decide_eq_false hk] at q4
      obtain ⟨I2, e2, a1, a2, a3, a4⟩ := e_St_floop ⟨s0, s1, s2, r0, r1⟩ hT hG hW d1 d2 r (pre ++ [e]) N I1 (by simp at hN; omega) (by rw [← hap]; exact h25) (fun e' he' => hlt e' (List.mem_cons_of_mem _ he')) hp2 t1 t2 q2 q4 q5
      rw [show pre ++ e :: tr P r = (pre ++ [e]) ++ tr P r by simp]
      have e2' : L_St_fill_26 N (some a) (some g) (some t) (nI (pre.length + 1)) (sh, I1, J, R, n) = some (sh, I2, J, R, n) := by
        rw [List.length_append] at e2; exact e2
      exact ⟨I2, e2', a1, a2, a3, fun b k h1 h2 => (a4 b k h1 h2).trans (K2 b k h1 h2)⟩
theorem e_St_fill {a : Nat} {b : Bool} {l : List Nat} (hS : ly_S sh R a) (hT : ly_T sh R t) (hG : ly_P sh R g) (hW : pg_W P) (d1 : t + 2 < a ∨ a + 2 < t) (d2 : g + 3 < a ∨ a + 2 < g) (h25 : l.length ≤ 25) (hlt : ∀ e, e ∈ l → e < P.1) (hp : pg_R I g P) (h1 : I t 2 = nI l.length) (h2 : ix_R I (t + 1) l) :
    ∃ I', f_St_fill a (some g) (some t) (bI b) (sh, I, J, R, n) = some (sh, I', J, R, n) ∧ st_S P I' a (tr P l, b, fun _ => none) ∧ (∀ c k, (c < a ∨ a + 2 < c) → I' c k = I c k) := by
  obtain ⟨s0, s1, s2, r0, r1⟩ := hS
  obtain ⟨I1, e1, a1, a2⟩ := e_Ar_fillI (I := hv_u (hv_u (hv_u I a 2 0) a 3 (bI b)) a 4 0) (J := J) (R := R) (n := n) (w := -1) s2 (by omega)
  have K1 : ∀ c k, (c < a ∨ a + 2 < c) → I1 c k = I c k := fun c k h => by rw [a2 c k (by omega), ev_ua (by omega), ev_ua (by omega), ev_ua (by omega)]
  have hp1 : pg_R I1 g P := by
    obtain ⟨p0, p1, p2⟩ := hp
    refine ⟨(K1 _ _ (by omega)).trans p0, p1, fun i hi => ?_⟩
    obtain ⟨q1, q2, q3⟩ := p2 i hi
    exact ⟨(K1 _ _ (by omega)).trans q1, (K1 _ _ (by omega)).trans q2, (K1 _ _ (by omega)).trans q3⟩
  obtain ⟨I2, e2, b1, b2, b3, b4⟩ := e_St_floop (J := J) (n := n) ⟨s0, s1, s2, r0, r1⟩ hT hG hW d1 d2 l [] 100000 I1 (by omega) (by simpa using h25) hlt hp1 (by rw [K1 _ _ (by omega)]; simpa using h1) (fun k e he => by rw [K1 _ _ (by omega)]; exact h2 k e (by simpa using he)) (by rw [a2 _ _ (by omega), ev_uk (by omega), ev_uk (by omega), ev_us]; rfl) (by rw [a2 _ _ (by omega), ev_us]) (fun k e he => by simp at he)
  have e2' : L_St_fill_26 100000 (some a) (some g) (some t) 0 (sh, I1, J, R, n) = some (sh, I2, J, R, n) := e2
  unfold f_St_fill
  simp only [ev_b, ev_ob s0, ev_sI, x_zb, ev_R, r1, e1, e2']
  rw [List.nil_append] at b1 b3
  refine ⟨I2, rfl, ⟨b1, ?_, ?_, b3, fun j hj => ?_⟩, fun c k h => ?_⟩
  · rw [b4 _ _ (by omega) (by omega), a2 _ _ (by omega), ev_uk (by omega), ev_us]
  · rw [b2]
    show _ = bI (hf P (tr P l))
    rw [hf_tr]
  · rw [b4 _ _ (by omega) (by omega), a1 j hj]; rfl
  · rw [b4 _ _ (by omega) (by omega), K1 _ _ h]
theorem e_St_sloop {a b : Nat} (hS : ly_S sh R a) (hS2 : ly_S sh R b) : ∀ (r r' p p' : List Nat) (N : Nat), r.length < N → p.length = p'.length → r.length = r'.length → (p ++ r).length ≤ 25 → (∀ e, e ∈ p ++ r → e < 49) → (∀ e, e ∈ p' ++ r' → e < 49) → I a 2 = nI (p ++ r).length → ix_R I (a + 1) (p ++ r) → ix_R I (b + 1) (p' ++ r') →
    ((L_St_isSameAs_26 N (some a) (some b) (nI p.length) (sh, I, J, R, n)).bind fun e9r => e9r.elim (fun e9 => some ((1 : Int32), e9)) (fun w => some w)) = some (bI (decide (r = r')), (sh, I, J, R, n))
  | r, r', p, p', 0, h, _, _, _, _, _, _, _, _ => by omega
  | [], r', p, p', N + 1, hN, hl, hl2, h25, hlt, hlt2, h1, h2, h3 => by
    rw [L_St_isSameAs_26]
    simp only [ev_ob hS.1, ev_b, ev_I, h1]
    rw [List.append_nil] at h25 ⊢
    rw [if_pos (by rw [nI_leI (by omega) (by omega)]; exact Nat.le_refl _)]
    have : r' = [] := List.length_eq_zero_iff.mp hl2.symm
    subst this
    rfl
  | e :: r, [], p, p', N + 1, hN, hl, hl2, h25, hlt, hlt2, h1, h2, h3 => by simp at hl2
  | e :: r, e' :: r', p, p', N + 1, hN, hl, hl2, h25, hlt, hlt2, h1, h2, h3 => by
    have hlen : (p ++ e :: r).length = p.length + (r.length + 1) := by simp
    have g1 : I (a + 1) p.length = nI e := h2 _ _ (by simp)
    have g2 : I (b + 1) p.length = nI e' := h3 _ _ (by rw [hl]; simp)
    have x1 := ev_ix (N := 25) (k := p.length) (by omega) (by omega)
    rw [L_St_isSameAs_26]
    simp only [ev_ob hS.1, ev_b, ev_I, h1]
    rw [if_neg (by rw [nI_leI (by omega) (by omega)]; omega), if_neg (by rw [li_25, nI_leI (by omega) (by omega)]; omega)]
    simp only [ev_R, hS.2.2.2.1, ev_ar0 hS.2.1, x1, ev_b, ev_ob hS2.1, hS2.2.2.2.1, ev_ar0 hS2.2.1, g1, g2]
    have b1 := hlt e (by simp)
    have b2 := hlt2 e' (by simp)
    by_cases he : e = e'
    · subst he
      rw [if_pos rfl]
      have ih := e_St_sloop hS hS2 r r' (p ++ [e]) (p' ++ [e]) N (by simp at hN; omega) (by simp [hl]) (by simpa using hl2) (by simpa using h25) (by simpa using hlt) (by simpa using hlt2) (by simpa using h1) (by simpa using h2) (by simpa using h3)
      rw [List.length_append] at ih
      rw [nI_1]
      have e0 : decide (e :: r = e :: r') = decide (r = r') := decide_eq_decide.mpr ⟨fun h => by injection h, fun h => by rw [h]⟩
      rw [e0]
      exact ih
    · rw [if_neg (by rw [nI_eq (by omega) (by omega)]; exact he)]
      rw [decide_eq_false (fun h => he (by injection h))]
      rfl
theorem bI_eq (a b : Bool) : (bI a = bI b) = (a = b) := by cases a <;> cases b <;> simp [bI]
theorem e_St_isSameAs {a b n1 n2 : Nat} {s s' : au_S} (hS : ly_S sh R a) (hS2 : ly_S sh R b) (hW : pg_W P) (h1 : st_S P I a s) (h2 : st_S P I b s') (i1 : au_sI P n1 s) (i2 : au_sI P n2 s') : f_St_isSameAs a (some b) (sh, I, J, R, n) = some (bI (decide (s.1 = s'.1 ∧ s.2.1 = s'.2.1)), (sh, I, J, R, n)) := by
  have h49 := hW.2.1
  have l1 := i1.1
  have l2 := i2.1
  unfold f_St_isSameAs
  simp only [ev_ob hS.1, ev_b, ev_ob hS2.1, ev_I, h1.1, h2.1, h1.2.1, h2.2.1]
  by_cases hl : s.1.length = s'.1.length
  · rw [if_pos (by rw [hl])]
    by_cases hb : s.2.1 = s'.2.1
    · rw [if_pos (by rw [hb])]
      have e1 := e_St_sloop (J := J) (n := n) (I := I) hS hS2 s.1 s'.1 [] [] 100000 (by omega) rfl hl (by simpa using l1) (fun e he => by have := i1.2.1 e (by simpa using he); omega) (fun e he => by have := i2.2.1 e (by simpa using he); omega) (by simpa using h1.1) (by simpa using h1.2.2.2.1) (by simpa using h2.2.2.2.1)
      have e1' : ((L_St_isSameAs_26 100000 (some a) (some b) 0 (sh, I, J, R, n)).bind fun e9r => e9r.elim (fun e9 => some ((1 : Int32), e9)) (fun w => some w)) = _ := e1
      rw [e1']
      have e2 : decide (s.1 = s'.1) = decide (s.1 = s'.1 ∧ s.2.1 = s'.2.1) := decide_eq_decide.mpr ⟨fun h => ⟨h, hb⟩, fun h => h.1⟩
      rw [e2]
    · rw [if_neg (by rw [bI_eq]; exact hb), decide_eq_false (fun h => hb h.2)]; rfl
  · rw [if_neg (by rw [nI_eq (by omega) (by omega)]; exact hl), decide_eq_false (fun h => hl (by rw [h.1]))]; rfl
end SA
