/-! THREADS IN LISTS: in the abstract, and the class's Lists -/
abbrev tx_T : Type := Nat × (Nat → Nat)
abbrev fo_T : Type := (Nat → Bool) × Bool × List (Nat × Int64)
def fo_0 : fo_T := (fun _ => false, false, [])
def tx_R (I : Nat → Nat → Int32) (x : Nat) (T : tx_T) : Prop := I x 1 = nI T.1 ∧ T.1 ≤ 20 ∧ ∀ k, k < T.1 → I (x + 1) k = nI (T.2 k) ∧ T.2 k < 8
def ly_X (sh : Nat → Option (Nat × Nat)) (R : Nat → Nat → Option Nat) (x : Nat) : Prop := sh x = some (2, 0) ∧ sh (x + 1) = some (1000, 20) ∧ R x 0 = some (x + 1)
/-- instruction i takes the letter at p -/
def tk (P : pg_P) (T : tx_T) (i p : Nat) : Bool := decide (p < T.1 ∧ (P.2.1 i = 1 ∨ (P.2.1 i = 0 ∧ P.2.2.1 i = T.2 p)))
def tx_r (T : tx_T) (p : Nat) : Nat := if p = T.1 then 1 else 0
theorem tx_r2 (T : tx_T) (p : Nat) : tx_r T p < 2 := by unfold tx_r; split <;> omega
/-- one going through a list -/
noncomputable def ls_g (P : pg_P) (T : tx_T) (p : Nat) : List (Nat × Int64) → Nat → fo_T → Int64 × Nat × fo_T
  | [], c, s => (0, c, s)
  | (i, w) :: r, c, s => if P.2.1 i = 7 then (w, c + 1, s) else ls_g P T p r (c + 1) (if tk P T i p then fo_F P (p + 1) (tx_r T (p + 1)) (i + 1) w s else s)
/-- the search by lists: best match and count -/
def ls_b (w best : Int64) (p : Nat) : Int64 := if w = 0 then best else sl_w w 1 p
noncomputable def ls_o (P : pg_P) (T : tx_T) (on : Bool) (p : Nat) (best : Int64) (s : fo_T) : fo_T := if (on && decide (best = 0)) && decide (p < T.1) then fo_F P (p + 1) (tx_r T (p + 1)) 0 (sl_w 0 0 (p + 1)) s else s
noncomputable def ls_f (P : pg_P) (T : tx_T) (on : Bool) : Nat → Nat → Int64 → Nat → List (Nat × Int64) → Int64 × Nat
  | 0, _, best, c, _ => (best, c)
  | k + 1, p, best, c, l =>
    if (!(on && decide (ls_b (ls_g P T p l c fo_0).1 best p = 0))) && (ls_o P T on p (ls_b (ls_g P T p l c fo_0).1 best p) (ls_g P T p l c fo_0).2.2).2.2.isEmpty then (ls_b (ls_g P T p l c fo_0).1 best p, (ls_g P T p l c fo_0).2.1)
    else ls_f P T on k (p + 1) (ls_b (ls_g P T p l c fo_0).1 best p) (ls_g P T p l c fo_0).2.1 (ls_o P T on p (ls_b (ls_g P T p l c fo_0).1 best p) (ls_g P T p l c fo_0).2.2).2.2
noncomputable def ls_F (P : pg_P) (T : tx_T) (on : Bool) (fr : Nat) : Int64 × Nat := ls_f P T on (T.1 + 1 - fr) fr 0 0 (fo_F P fr (tx_r T fr) 0 (sl_w 0 0 fr) fo_0).2.2
/-! slots of entries -/
theorem fo_Qn {P : pg_P} {pl ru : Nat} {Q : Int64 → Prop} (hW : pg_W P) (hQ : ∀ w j, Q w → 2 ≤ j → j < 8 → Q (sl_w w j pl)) : ∀ (k : Nat) (s : fo_S), (∀ e, e ∈ s.1 → e.1 < P.1 ∧ Q e.2) → (∀ e, e ∈ s.2.2.2 → Q e.2) → ∀ e, e ∈ (fo_n P pl ru k s).2.2.2 → Q e.2
  | 0, s, _, h2 => h2
  | k + 1, ([], m, t, l), h1, h2 => by
    rw [fo_e]; exact h2
  | k + 1, ((i, w) :: r, m, t, l), h1, h2 => by
    have hi := h1 (i, w) List.mem_cons_self
    have h1r : ∀ e, e ∈ r → e.1 < P.1 ∧ Q e.2 := fun e he => h1 e (List.mem_cons_of_mem _ he)
    unfold fo_n
    rw [fo_1c]
    by_cases hm : m i = true
    · rw [if_pos hm]
      exact fo_Qn hW hQ k _ h1r h2
    · rw [if_neg hm]
      refine fo_Qn hW hQ k _ ?_ ?_
      · intro e he
        rcases List.mem_append.mp he with he | he
        · refine ⟨fo_nx_lt hW hi.1 e he, ?_⟩
          obtain ⟨w7, wf, w2, w3, w4, w0⟩ := hW.2.2.1 i hi.1
          unfold fo_nx at he
          split at he
          · simp only [List.mem_cons, List.not_mem_nil, or_false] at he
            rcases he with rfl | rfl <;> exact hi.2
          · split at he
            · simp only [List.mem_cons, List.not_mem_nil, or_false] at he; subst he; exact hi.2
            · split at he
              · next hk => simp only [List.mem_cons, List.not_mem_nil, or_false] at he; subst he; exact hQ w _ hi.2 (w4 hk).1 (w4 hk).2
              · split at he
                · split at he
                  · simp only [List.mem_cons, List.not_mem_nil, or_false] at he; subst he; exact hi.2
                  · cases he
                · split at he
                  · split at he
                    · simp only [List.mem_cons, List.not_mem_nil, or_false] at he; subst he; exact hi.2
                    · cases he
                  · cases he
        · exact h1r e he
      · intro e he
        have he : e ∈ (if fo_en P ru i = true then l ++ [(i, w)] else l) := he
        split at he
        · rcases List.mem_append.mp he with he | he
          · exact h2 e he
          · simp only [List.mem_cons, List.not_mem_nil, or_false] at he; subst he; exact hi.2
        · exact h2 e he
theorem fo_QF {P : pg_P} {pl ru i : Nat} {w : Int64} {s : fo_T} {Q : Int64 → Prop} (hW : pg_W P) (hQ : ∀ w j, Q w → 2 ≤ j → j < 8 → Q (sl_w w j pl)) (hi : i < P.1) (hw : Q w) (h : ∀ e, e ∈ s.2.2 → Q e.2) : ∀ e, e ∈ (fo_F P pl ru i w s).2.2 → Q e.2 := by
  unfold fo_F
  refine fo_Qn hW hQ fo_N.1 _ ?_ h
  intro e he
  simp only [List.mem_cons, List.not_mem_nil, or_false] at he
  subst he
  exact ⟨hi, hw⟩
/-- a thread that began between fr and p -/
def sl_B (fr p : Nat) (w : Int64) : Prop := ∃ b, fr ≤ b ∧ b ≤ p ∧ sl_g w 0 = nI b
theorem sl_B_w {fr p pl : Nat} (hpl : pl < 31) : ∀ w j, sl_B fr p w → 2 ≤ j → j < 8 → sl_B fr p (sl_w w j pl) := by
  intro w j ⟨b, h1, h2, h3⟩ hj hj8
  exact ⟨b, h1, h2, by rw [sl_gw hj8 (by omega) hpl, if_neg (by omega)]; exact h3⟩
theorem sl_B_le {fr p q : Nat} {w : Int64} (h : p ≤ q) (hw : sl_B fr p w) : sl_B fr q w := by
  obtain ⟨b, h1, h2, h3⟩ := hw
  exact ⟨b, h1, by omega, h3⟩
theorem sl_B_ne {fr p : Nat} {w : Int64} (hp : p < 31) (hw : sl_B fr p w) : w ≠ 0 := by
  obtain ⟨b, h1, h2, h3⟩ := hw
  exact sl_ne h3 (by omega)
theorem sl_B_0 {fr p : Nat} (hp : p < 31) (h : fr ≤ p) : sl_B fr p (sl_w 0 0 p) := ⟨p, h, Nat.le_refl _, by rw [sl_gw (by omega) (by omega) hp, if_pos rfl]⟩
/-- what going through keeps -/
def ls_I (P : pg_P) (fr p : Nat) (s : fo_T) : Prop := fo_J P s ∧ ∀ e, e ∈ s.2.2 → sl_B fr p e.2
theorem ls_I0 {P : pg_P} {fr p : Nat} (hW : pg_W P) : ls_I P fr p fo_0 := ⟨fo_J0 hW, fun e he => by cases he⟩
theorem ls_IF {P : pg_P} {fr p pl ru i : Nat} {w : Int64} {s : fo_T} (hW : pg_W P) (hpl : pl < 31) (hi : i < P.1) (hw : sl_B fr p w) (h : ls_I P fr p s) : ls_I P fr p (fo_F P pl ru i w s) := ⟨fo_FJ hW h.1 hi, fo_QF hW (sl_B_w hpl) hi hw h.2⟩
theorem tk_lt {P : pg_P} {T : tx_T} {i p : Nat} (hW : pg_W P) (hi : i < P.1) (h : tk P T i p = true) : i + 1 < P.1 ∧ p < T.1 := by
  unfold tk at h
  rw [decide_eq_true_eq] at h
  obtain ⟨w7, wf, w2, w3, w4, w0⟩ := hW.2.2.1 i hi
  have : ¬ i + 1 = P.1 := fun e => by have := wf.2 e; omega
  exact ⟨by omega, h.1⟩
theorem ls_gI {P : pg_P} {T : tx_T} {fr p : Nat} (hW : pg_W P) (hp : p < 30) : ∀ (l : List (Nat × Int64)) (c : Nat) (s : fo_T), (∀ e, e ∈ l → e.1 < P.1 ∧ sl_B fr p e.2) → ls_I P fr (p + 1) s → ls_I P fr (p + 1) (ls_g P T p l c s).2.2 ∧ ((ls_g P T p l c s).1 = 0 ∨ sl_B fr p (ls_g P T p l c s).1)
  | [], c, s, _, hs => ⟨hs, Or.inl rfl⟩
  | (i, w) :: r, c, s, hl, hs => by
    have hi := hl (i, w) List.mem_cons_self
    unfold ls_g
    split
    · exact ⟨hs, Or.inr hi.2⟩
    · refine ls_gI hW hp r _ _ (fun e he => hl e (List.mem_cons_of_mem _ he)) ?_
      split
      · next ht => exact ls_IF hW (by omega) (tk_lt hW hi.1 ht).1 (sl_B_le (by omega) hi.2) hs
      · exact hs
section LS
variable {sh : Nat → Option (Nat × Nat)} {I : Nat → Nat → Int32} {J : Nat → Nat → Int64} {R : Nat → Nat → Option Nat} {n g x L : Nat} {P : pg_P} {T : tx_T}
theorem e_Tx_length (hl : ly_X sh R x) (ht : tx_R I x T) : f_Tx_length x (sh, I, J, R, n) = some (nI T.1, (sh, I, J, R, n)) := by
  simp only [f_Tx_length, ev_b, ev_ob hl.1, ev_I, ht.1]
theorem e_Tx_letterAt {p : Nat} (hl : ly_X sh R x) (ht : tx_R I x T) (hp : p < 31) : f_Tx_letterAt x (nI p) (sh, I, J, R, n) = some (if p < T.1 then nI (T.2 p) else -1, (sh, I, J, R, n)) := by
  obtain ⟨t1, t2, t3⟩ := ht
  have a1 : ¬ nI p < 0 := nI_pos (by omega)
  unfold f_Tx_letterAt
  rw [if_neg a1]
  simp only [ev_b, ev_ob hl.1, ev_I, ev_R, t1, hl.2.2, ev_ar0 hl.2.1]
  by_cases h : p < T.1
  · rw [if_neg (by rw [nI_leI (by omega) (by omega)]; omega), if_neg (by rw [nI_leI (by omega) (by omega)]; omega), if_pos h, ev_ix (by omega) (by omega), ev_b, (t3 p h).1, ev_b]
  · rw [if_pos (by rw [nI_leI (by omega) (by omega)]; omega), if_neg h, ev_b]
theorem e_Fo_ruleAt {p : Nat} (hl : ly_X sh R x) (ht : tx_R I x T) (hp : p < 31) : f_Fo_ruleAt (nI p) (some x) (sh, I, J, R, n) = some (nI (tx_r T p), (sh, I, J, R, n)) := by
  have := ht.2.1
  simp only [f_Fo_ruleAt, ev_b, ev_ob hl.1, e_Tx_length hl ht]
  unfold tx_r
  by_cases h : p = T.1
  · rw [if_pos (by rw [h]), if_pos h]; rfl
  · rw [if_neg (by rw [nI_eq (by omega) (by omega)]; exact h), if_neg h]; rfl
theorem e_Pr_takes {i p : Nat} (hl : ly_P sh R g) (hp : pg_R I g P) (hW : pg_W P) (ht : ∀ k, k < T.1 → T.2 k < 8) (hi : i < P.1) : f_Pr_takes g (nI i) (if p < T.1 then nI (T.2 p) else -1) (sh, I, J, R, n) = some (bI (tk P T i p), (sh, I, J, R, n)) := by
  obtain ⟨w7, wf, w2, w3, w4, w0⟩ := hW.2.2.1 i hi
  unfold f_Pr_takes tk
  simp only [ev_b, ev_ob hl.1, e_Pr_kindAt hl hp hi, e_Pr_xAt hl hp hi]
  by_cases h : p < T.1
  · have := ht p h
    rw [if_pos h, if_neg (by rw [ev_n1 (by omega)]; exact not_false)]
    by_cases h1 : P.2.1 i = 1
    · rw [if_pos (by rw [h1]; rfl), decide_eq_true ⟨h, Or.inl h1⟩]; rfl
    · rw [if_neg (by rw [li_1, nI_eq (by omega) (by omega)]; exact h1)]
      by_cases h0 : P.2.1 i = 0
      · rw [if_pos (by rw [h0]; rfl)]
        by_cases hx : P.2.2.1 i = T.2 p
        · rw [if_pos (by rw [hx]), decide_eq_true ⟨h, Or.inr ⟨h0, hx⟩⟩]; rfl
        · rw [if_neg (by rw [nI_eq (by have := w0 h0; omega) (by omega)]; exact hx), decide_eq_false (by omega)]; rfl
      · rw [if_neg (by rw [li_0, nI_eq (by omega) (by omega)]; exact h0), decide_eq_false (by omega)]; rfl
  · rw [if_neg h, if_pos rfl, decide_eq_false (by omega)]; rfl
def ly_L (sh : Nat → Option (Nat × Nat)) (R : Nat → Nat → Option Nat) (L t1 t2 : Nat) : Prop := sh L = some (3, 0) ∧ ly_F sh R (L + 1) ∧ ly_T sh R t1 ∧ ly_T sh R t2 ∧ R L 0 = some (L + 1) ∧ R L 1 = some t1 ∧ R L 2 = some t2 ∧ ((t1 = L + 4 ∧ t2 = L + 7) ∨ (t1 = L + 7 ∧ t2 = L + 4))
/-- nothing outside of Lists has changed -/
def ls_K (L : Nat) (I I' : Nat → Nat → Int32) (J J' : Nat → Nat → Int64) : Prop := ∀ a k, (a < L ∨ L + 9 < a) → I' a k = I a k ∧ J' a k = J a k
theorem ls_K_trans {I' I2 : Nat → Nat → Int32} {J' J2 : Nat → Nat → Int64} (h : ls_K L I I' J J') (k : ls_K L I' I2 J' J2) : ls_K L I I2 J J2 := fun a j h1 => ⟨(k a j h1).1.trans (h a j h1).1, (k a j h1).2.trans (h a j h1).2⟩
theorem pg_R_L {I' : Nat → Nat → Int32} {J' : Nat → Nat → Int64} (h : ls_K L I I' J J') (d : g + 3 < L ∨ L + 9 < g) (hp : pg_R I g P) : pg_R I' g P := by
  obtain ⟨p0, p1, p2⟩ := hp
  refine ⟨(h g 3 (by omega)).1.trans p0, p1, fun i hi => ?_⟩
  obtain ⟨a, b, c⟩ := p2 i hi
  exact ⟨(h _ i (by omega)).1.trans a, (h _ i (by omega)).1.trans b, (h _ i (by omega)).1.trans c⟩
theorem tx_R_L {I' : Nat → Nat → Int32} {J' : Nat → Nat → Int64} (h : ls_K L I I' J J') (d : x + 1 < L ∨ L + 9 < x) (ht : tx_R I x T) : tx_R I' x T := by
  obtain ⟨t1, t2, t3⟩ := ht
  exact ⟨(h _ _ (by omega)).1.trans t1, t2, fun k hk => ⟨(h _ _ (by omega)).1.trans (t3 k hk).1, (t3 k hk).2⟩⟩
theorem ls_R_mono {I' : Nat → Nat → Int32} {J' : Nat → Nat → Int64} {t : Nat} {l : List (Nat × Int64)} (h : ∀ a k, t ≤ a → a ≤ t + 2 → I' a k = I a k ∧ J' a k = J a k) (hl : ls_R I J t l) : ls_R I' J' t l :=
  ⟨(h t 2 (by omega) (by omega)).1.trans hl.1, fun k e he => ⟨(h _ _ (by omega) (by omega)).1.trans (hl.2 k e he).1, (h _ _ (by omega) (by omega)).2.trans (hl.2 k e he).2⟩⟩
theorem e_Ls_go {t1 t2 p : Nat} (hL : ly_L sh R L t1 t2) (hG : ly_P sh R g) (r5 : R (L + 1) 5 = some g) (r6 : R (L + 1) 6 = some t2) (dg : g + 3 < L ∨ L + 9 < g) (hW : pg_W P) (hT : ∀ k, k < T.1 → T.2 k < 8) (hp31 : p < 30) :
    ∀ (rest pre : List (Nat × Int64)) (N c : Nat) (s : fo_T) (I : Nat → Nat → Int32) (J : Nat → Nat → Int64), rest.length < N → (pre ++ rest).length ≤ 25 → (∀ e, e ∈ rest → e.1 < P.1) → fo_J P s → pg_R I g P → I (L + 1) 7 = nI (p + 1) → I (L + 1) 8 = nI (tx_r T (p + 1)) → fo_R I J (L + 1) t2 ([], s) → ls_R I J t1 (pre ++ rest) → I L 3 = nI c →
    ∃ I' J', ((L_Ls_goThrough_2 N (some L) (some g) (if p < T.1 then nI (T.2 p) else -1) (nI pre.length) (sh, I, J, R, n)).bind fun e21r => e21r.elim (fun e21 => some ((0 : Int64), e21)) (fun w => some w)) = some ((ls_g P T p rest c s).1, (sh, I', J', R, n)) ∧ I' L 3 = nI (ls_g P T p rest c s).2.1 ∧ fo_R I' J' (L + 1) t2 ([], (ls_g P T p rest c s).2.2) ∧ I' (L + 1) 7 = nI (p + 1) ∧ I' (L + 1) 8 = nI (tx_r T (p + 1)) ∧ ls_K L I I' J J'
  | rest, pre, 0, _, _, _, _, h, _, _, _, _, _, _, _, _, _ => by omega
  | rest, pre, N + 1, c, s, I, J, hN, h25, hlt, hJ, hp, h7, h8, hf, hls, hc => by
    have hLL := hL
    obtain ⟨l0, lF, lT1, lT2, r0, r1, r2, ht⟩ := hL
    rw [L_Ls_goThrough_2]
    simp only [ev_b, ev_ob l0, ev_R, r1, ev_ob lT1.1, e_TL_size lT1 hls.1]
    rw [List.length_append] at h25
    match rest with
    | [] =>
      have e0 : nI (pre.length + ([] : List (Nat × Int64)).length) ≤ nI pre.length := by
        rw [nI_leI (by simp; omega) (by omega)]; simp
      rw [if_pos (by rw [List.length_append]; exact e0)]
      exact ⟨I, J, rfl, hc, hf, h7, h8, fun _ _ _ => ⟨rfl, rfl⟩⟩
    | (i, w) :: r =>
      have hi : i < P.1 := hlt (i, w) List.mem_cons_self
      simp only [List.length_cons] at h25 hN
      have hn49 := hW.2.1
      have hk7 := (hW.2.2.1 i hi).1
      rw [if_neg (by rw [List.length_append, nI_leI (by simp; omega) (by omega)]; simp)]
      have hK1 : ls_K L I (hv_u I L 3 (nI (c + 1))) J J := fun a k h => by rw [ev_ua (by omega)]; exact ⟨rfl, rfl⟩
      have hp1 := pg_R_L hK1 dg hp
      have hls1 : ls_R (hv_u I L 3 (nI (c + 1))) J t1 (pre ++ (i, w) :: r) := ls_R_mono (fun a k g1 g2 => by rw [ev_ua (by omega)]; exact ⟨rfl, rfl⟩) hls
      have hf1 : fo_R (hv_u I L 3 (nI (c + 1))) J (L + 1) t2 ([], s) := by
        obtain ⟨f1, f2, f3, f4, f5⟩ := hf
        exact ⟨by rw [ev_ua (by omega)]; exact f1, trivial, f3, by rw [ev_ua (by omega)]; exact f4, ls_R_mono (fun a k g1 g2 => by rw [ev_ua (by omega)]; exact ⟨rfl, rfl⟩) f5⟩
      have h71 : (hv_u I L 3 (nI (c + 1))) (L + 1) 7 = nI (p + 1) := by rw [ev_ua (by omega)]; exact h7
      have h81 : (hv_u I L 3 (nI (c + 1))) (L + 1) 8 = nI (tx_r T (p + 1)) := by rw [ev_ua (by omega)]; exact h8
      have hc1 : (hv_u I L 3 (nI (c + 1))) L 3 = nI (c + 1) := ev_us
      simp only [ev_sI, ev_I, hc, nI_1]
      generalize hv_u I L 3 (nI (c + 1)) = I1 at hK1 hp1 hls1 hf1 h71 h81 hc1 ⊢
      have hlen1 : I1 t1 2 = nI (pre ++ (i, w) :: r).length := hls1.1
      have hll : (pre ++ (i, w) :: r).length ≤ 25 := by rw [List.length_append, List.length_cons]; omega
      have hge : (pre ++ (i, w) :: r)[pre.length]? = some (i, w) := by simp
      have hei := hls1.2 pre.length (i, w) hge
      have hix : pre.length < (pre ++ (i, w) :: r).length := by simp
      have a1 := e_TL_instructionAt (J := J) (n := n) lT1 hlen1 hll hix
      have a2 := e_TL_slotsAt (J := J) (n := n) lT1 hlen1 hll hix
      rw [hei.1] at a1
      rw [hei.2] at a2
      simp only [ev_R, r1, ev_ob lT1.1, ev_b, a1, ev_ob hG.1, e_Pr_kindAt hG hp1 hi]
      unfold ls_g
      by_cases hk : P.2.1 i = 7
      · rw [if_pos (by rw [hk]; rfl), if_pos hk]
        simp only [ev_b, ev_ob l0, ev_R, r1, ev_ob lT1.1, a2]
        exact ⟨I1, J, rfl, hc1, hf1, h71, h81, hK1⟩
      · rw [if_neg (by rw [li_7, nI_eq (by omega) (by omega)]; exact hk), if_neg hk]
        simp only [e_Pr_takes hG hp1 hW hT hi, ev_b]
        by_cases htk : tk P T i p = true
        · obtain ⟨q1, q2⟩ := tk_lt hW hi htk
          obtain ⟨I2, J2, e2, f2, K2⟩ := e_Fo_follow (n := n) (i := i + 1) (w := w) ⟨lF, lT2, hG, r5, r6, by omega, by omega, by omega⟩ hp1 hW h71 h81 (by omega) (by have := tx_r2 T (p + 1); omega) q1 hJ hf1
          have K2' : ls_K L I1 I2 J J2 := fun a k h => K2.1 a k (by omega) (by omega)
          rw [htk, if_neg (show ¬ bI true = 0 by decide), if_pos rfl]
          simp only [ev_b, ev_ob l0, ev_R, r0, r1, ev_ob lT1.1, ev_ob lF.1, a2, nI_1, e2]
          obtain ⟨I3, J3, e3, c3, f3, g7, g8, K3⟩ := e_Ls_go hLL hG r5 r6 dg hW hT hp31 r (pre ++ [(i, w)]) N (c + 1) (fo_F P (p + 1) (tx_r T (p + 1)) (i + 1) w s) I2 J2 (by omega) (by simp; omega) (fun e he => hlt e (List.mem_cons_of_mem _ he)) (fo_FJ hW hJ q1) (pg_R_L K2' dg hp1) ((K2.2 7 (Or.inl rfl)).trans h71) ((K2.2 8 (Or.inr rfl)).trans h81) f2 (by
            rw [List.append_assoc]
            exact ls_R_mono (fun a k g1 g2 => K2.1 a k (by omega) (by omega)) hls1) ((K2.1 L 3 (by omega) (by omega)).1.trans hc1)
          rw [List.length_append] at e3
          exact ⟨I3, J3, e3, c3, f3, g7, g8, ls_K_trans hK1 (ls_K_trans K2' K3)⟩
        · have htk' : tk P T i p = false := by simpa using htk
          rw [htk', if_pos (show bI false = 0 by decide), if_neg (show ¬ (false = true) by simp)]
          simp only [ev_b, nI_1]
          obtain ⟨I3, J3, e3, c3, f3, g7, g8, K3⟩ := e_Ls_go hLL hG r5 r6 dg hW hT hp31 r (pre ++ [(i, w)]) N (c + 1) s I1 J (by omega) (by simp; omega) (fun e he => hlt e (List.mem_cons_of_mem _ he)) hJ hp1 h71 h81 hf1 (by
            rw [List.append_assoc]
            exact hls1) hc1
          rw [List.length_append] at e3
          exact ⟨I3, J3, e3, c3, f3, g7, g8, ls_K_trans hK1 K3⟩
theorem ls_bE {w best : Int64} {p : Nat} {σ : hv_S} : ((if lg_cmp w 0 = 0 then some (best, σ) else (f_C_withSlot w 1 (nI p) σ).bind fun p20 => some (p20.1, p20.2)) : Option (Int64 × hv_S)) = some (ls_b w best p, σ) := by
  unfold ls_b
  by_cases h : w = 0
  · rw [if_pos ((lg_c0 w).mpr h), if_pos h]
  · rw [if_neg (fun e => h ((lg_c0 w).mp e)), if_neg h]; rfl
theorem ls_mE {on : Bool} {b : Int64} : ((if bI on = 0 then some 0 else if lg_cmp b 0 = 0 then some 1 else some 0) : Option Int32) = some (bI (on && decide (b = 0))) := by
  cases on with
  | false => rfl
  | true =>
    rw [if_neg (by decide)]
    by_cases h : b = 0
    · rw [if_pos ((lg_c0 b).mpr h)]; simp [h, bI]
    · rw [if_neg (fun e => h ((lg_c0 b).mp e))]; simp [h, bI]
theorem ly_FR {R' : Nat → Nat → Option Nat} {f : Nat} (h : ∀ k, k = 0 ∨ k = 1 → R' f k = R f k) (hl : ly_F sh R f) : ly_F sh R' f := ⟨hl.1, hl.2.1, hl.2.2.1, (h 0 (Or.inl rfl)).trans hl.2.2.2.1, (h 1 (Or.inr rfl)).trans hl.2.2.2.2⟩
theorem ly_TR {R' : Nat → Nat → Option Nat} {t : Nat} (h : ∀ k, R' t k = R t k) (hl : ly_T sh R t) : ly_T sh R' t := ⟨hl.1, hl.2.1, hl.2.2.1, (h 0).trans hl.2.2.2.1, (h 1).trans hl.2.2.2.2⟩
theorem ly_PR {R' : Nat → Nat → Option Nat} (h : ∀ k, R' g k = R g k) (hl : ly_P sh R g) : ly_P sh R' g := ⟨hl.1, hl.2.1, hl.2.2.1, hl.2.2.2.1, (h 0).trans hl.2.2.2.2.1, (h 1).trans hl.2.2.2.2.2.1, (h 2).trans hl.2.2.2.2.2.2⟩
theorem ly_XR {R' : Nat → Nat → Option Nat} (h : ∀ k, R' x k = R x k) (hl : ly_X sh R x) : ly_X sh R' x := ⟨hl.1, hl.2.1, (h 0).trans hl.2.2⟩
theorem e_Ls_floop {fr : Nat} {on : Bool} (dg : g + 3 < L ∨ L + 9 < g) (dx : x + 1 < L ∨ L + 9 < x) (hW : pg_W P) :
    ∀ (k N p : Nat) (best : Int64) (c : Nat) (l : List (Nat × Int64)) (I : Nat → Nat → Int32) (J : Nat → Nat → Int64) (R : Nat → Nat → Option Nat) (t1 t2 : Nat), k < N → p + k = T.1 + 1 → fr ≤ p → ly_L sh R L t1 t2 → ly_P sh R g → ly_X sh R x → pg_R I g P → tx_R I x T → l.length ≤ 25 → (∀ e, e ∈ l → e.1 < P.1 ∧ sl_B fr p e.2) → ls_R I J t1 l → I L 3 = nI c →
    ∃ I' J' R' t1' t2', L_Ls_find_41 N (some L) (some g) (some x) (bI on) best (nI p) (sh, I, J, R, n) = some ((ls_f P T on k p best c l).1, (sh, I', J', R', n)) ∧ I' L 3 = nI (ls_f P T on k p best c l).2 ∧ ly_L sh R' L t1' t2' ∧ ls_K L I I' J J' ∧ (∀ a k, a ≠ L → a ≠ L + 1 → R' a k = R a k)
  | k, 0, _, _, _, _, _, _, _, _, _, h, _, _, _, _, _, _, _, _, _, _, _ => by omega
  | 0, N + 1, p, best, c, l, I, J, R, t1, t2, hN, hpk, hfr, hL, hG, hX, hp, ht, h25, hl, hls, hc => by
    have t20 := ht.2.1
    rw [L_Ls_find_41]
    simp only [ev_b, ev_ob hX.1, e_Tx_length hX ht]
    rw [if_pos (by rw [nI_ltI (by omega) (by omega)]; omega)]
    exact ⟨I, J, R, t1, t2, rfl, hc, hL, fun _ _ _ => ⟨rfl, rfl⟩, fun _ _ _ _ => rfl⟩
  | k + 1, N + 1, p, best, c, l, I, J, R, t1, t2, hN, hpk, hfr, hL, hG, hX, hp, ht, h25, hl, hls, hc => by
    have t20 := ht.2.1
    have hLL := hL
    obtain ⟨l0, lF, lT1, lT2, r0, r1, r2, htt⟩ := hL
    rw [L_Ls_find_41]
    simp only [ev_b, ev_ob hX.1, e_Tx_length hX ht]
    rw [if_neg (by rw [nI_ltI (by omega) (by omega)]; omega)]
    -- begin
    obtain ⟨I1, J1, R1, e1, f1, g7, g8, K1, s5, s6, KR1⟩ := e_Fo_begin (sh := sh) (I := I) (J := J) (R := R) (n := n) (f := L + 1) (t := t2) (g := g) (pl := p + 1) (ru := tx_r T (p + 1)) lF lT2 (by omega)
    have K1' : ls_K L I I1 J J1 := fun a k h => K1 a k (by omega) (by omega)
    have hR1 : ∀ a k, a ≠ L + 1 → R1 a k = R a k := fun a k h => KR1 a k (Or.inl h)
    have hL1 : ly_L sh R1 L t1 t2 := ⟨l0, ly_FR (fun k hk => KR1 _ k (by omega)) lF, ly_TR (fun k => hR1 _ k (by omega)) lT1, ly_TR (fun k => hR1 _ k (by omega)) lT2, (hR1 _ _ (by omega)).trans r0, (hR1 _ _ (by omega)).trans r1, (hR1 _ _ (by omega)).trans r2, htt⟩
    have hG1 : ly_P sh R1 g := ly_PR (fun k => hR1 _ k (by omega)) hG
    have hX1 : ly_X sh R1 x := ly_XR (fun k => hR1 _ k (by omega)) hX
    have hp1 := pg_R_L K1' dg hp
    have ht1 := tx_R_L K1' dx ht
    have hls1 : ls_R I1 J1 t1 l := ls_R_mono (fun a k q1 q2 => K1 a k (by omega) (by omega)) hls
    have hc1 : I1 L 3 = nI c := (K1 L 3 (by omega) (by omega)).1.trans hc
    obtain ⟨I2, J2, e2, c2, f2, h72, h82, K2⟩ := e_Ls_go (n := n) hL1 hG1 s5 s6 dg hW (fun k hk => (ht1.2.2 k hk).2) (show p < 30 by omega) l [] 100000 c fo_0 I1 J1 (by omega) (by simpa using h25) (fun e he => (hl e he).1) (fo_J0 hW) hp1 g7 g8 f1 (by simpa using hls1) hc1
    have hgI := ls_gI (T := T) (fr := fr) hW (show p < 30 by omega) l c fo_0 hl (ls_I0 hW)
    have e2' : f_Ls_goThrough L (some g) (if p < T.1 then nI (T.2 p) else -1) (sh, I1, J1, R1, n) = some ((ls_g P T p l c fo_0).1, (sh, I2, J2, R1, n)) := e2
    have hp2 := pg_R_L K2 dg hp1
    have ht2 := tx_R_L K2 dx ht1
    have r11 : R1 L 1 = some t1 := hL1.2.2.2.2.2.1
    have r12 : R1 L 2 = some t2 := hL1.2.2.2.2.2.2.1
    have r10 : R1 L 0 = some (L + 1) := hL1.2.2.2.2.1
    simp only [nI_1, e_Fo_ruleAt hX ht (show p + 1 < 31 by omega), ev_b, ev_ob l0, ev_R, r0, r2, ev_ob lF.1, e1, ev_ob hX.1, e_Tx_letterAt hX1 ht1 (show p < 31 by omega), e2', ls_bE, ls_mE]
    unfold ls_f
    generalize hw : (ls_g P T p l c fo_0).1 = w at hgI c2 f2 ⊢
    generalize hcc : (ls_g P T p l c fo_0).2.1 = c' at hgI c2 f2 ⊢
    generalize hss : (ls_g P T p l c fo_0).2.2 = s' at hgI c2 f2 ⊢
    generalize hbb : ls_b w best p = b'
    -- onward
    have e3 : ∃ I3 J3, ((if bI (on && decide (b' = 0)) = 0 then some (sh, I2, J2, R1, n) else (f_Tx_length x (sh, I2, J2, R1, n)).bind fun p24 => if p24.1 ≤ nI p then some p24.2 else (x_ob p24.2 3 (some L)).bind fun a25 => (f_C_slotsFrom (nI (p + 1)) p24.2).bind fun p26 => (x_ob p26.2 4 (hv_R p24.2 a25 0)).bind fun a27 => (f_Fo_follow a27 0 p26.1 p26.2).bind fun p28 => some p28) : Option hv_S) = some (sh, I3, J3, R1, n) ∧ ls_R I3 J3 t2 (ls_o P T on p b' s').2.2 ∧ ls_I P fr (p + 1) (ls_o P T on p b' s') ∧ I3 L 3 = nI c' ∧ ls_K L I2 I3 J2 J3 := by
      unfold ls_o
      cases hmb : (on && decide (b' = 0)) with
      | false =>
        rw [if_pos (by decide), if_neg (by simp)]
        exact ⟨I2, J2, rfl, f2.2.2.2.2, hgI.1, c2, fun _ _ _ => ⟨rfl, rfl⟩⟩
      | true =>
        rw [if_neg (by decide), e_Tx_length hX1 ht2, ev_b]
        by_cases hpT : p < T.1
        · rw [if_neg (by rw [nI_leI (by omega) (by omega)]; omega), if_pos (by simp [hpT])]
          obtain ⟨I3, J3, e3, f3, K3⟩ := e_Fo_follow (n := n) (i := 0) (w := sl_w 0 0 (p + 1)) ⟨hL1.2.1, hL1.2.2.2.1, hG1, s5, s6, by omega, by omega, by omega⟩ hp2 hW h72 h82 (by omega) (by have := tx_r2 T (p + 1); omega) (by have := hW.1; omega) hgI.1.1 f2
          have e3' : f_Fo_follow (L + 1) 0 (sl_w 0 0 (p + 1)) (sh, I2, J2, R1, n) = some (sh, I3, J3, R1, n) := e3
          have e4 : f_C_slotsFrom (nI (p + 1)) (sh, I2, J2, R1, n) = some (sl_w 0 0 (p + 1), (sh, I2, J2, R1, n)) := rfl
          simp only [ev_b, ev_ob l0, e4, ev_R, r10, ev_ob lF.1, e3']
          exact ⟨I3, J3, rfl, f3.2.2.2.2, ls_IF hW (by omega) (by have := hW.1; omega) (sl_B_0 (by omega) (by omega)) hgI.1, (K3.1 L 3 (by omega) (by omega)).1.trans c2, fun a k h => K3.1 a k (by omega) (by omega)⟩
        · rw [if_pos (by rw [nI_leI (by omega) (by omega)]; omega), if_neg (by simp [hpT])]
          exact ⟨I2, J2, rfl, f2.2.2.2.2, hgI.1, c2, fun _ _ _ => ⟨rfl, rfl⟩⟩
    obtain ⟨I3, J3, e3, f3, hI3, c3, K3⟩ := e3
    rw [e3, ev_b]
    have e5 : f_Ls_swapLists L (sh, I3, J3, R1, n) = some (sh, I3, J3, hv_u (hv_u R1 L 1 (some t2)) L 2 (some t1), n) := by
      simp only [f_Ls_swapLists, ev_b, ev_ob l0, ev_R, ev_sR, r11, r12]
    simp only [ev_ob l0, ev_b, e5]
    have hL5 : ly_L sh (hv_u (hv_u R1 L 1 (some t2)) L 2 (some t1)) L t2 t1 := by
      obtain ⟨m0, mF, mT1, mT2, q0, q1, q2, mtt⟩ := hL1
      refine ⟨m0, ly_FR (fun k hk => by rw [ev_ua (by omega), ev_ua (by omega)]) mF, ly_TR (fun k => by rw [ev_ua (by omega), ev_ua (by omega)]) mT2, ly_TR (fun k => by rw [ev_ua (by omega), ev_ua (by omega)]) mT1, ?_, ?_, ev_us, by omega⟩
      · rw [ev_uk (by omega), ev_uk (by omega)]; exact q0
      · rw [ev_uk (by omega), ev_us]
    have hR5 : ∀ a k, a ≠ L → a ≠ L + 1 → (hv_u (hv_u R1 L 1 (some t2)) L 2 (some t1)) a k = R a k := fun a k h1 h2 => by
      rw [ev_ua h1, ev_ua h1]; exact hR1 a k h2
    have K13 := ls_K_trans K1' (ls_K_trans K2 K3)
    have ih := e_Ls_floop (fr := fr) (on := on) dg dx hW k N (p + 1) b' c' (ls_o P T on p b' s').2.2 I3 J3 (hv_u (hv_u R1 L 1 (some t2)) L 2 (some t1)) t2 t1 (by omega) (by omega) (by omega) hL5 (ly_PR (fun k => hR5 _ k (by omega) (by omega)) hG) (ly_XR (fun k => hR5 _ k (by omega) (by omega)) hX) (pg_R_L K13 dg hp) (tx_R_L K13 dx ht) (by have := hI3.1.1; omega) (fun e he => ⟨hI3.1.2 e he, hI3.2 e he⟩) f3 c3
    obtain ⟨I6, J6, R6, t16, t26, e6, c6, hL6, K6, KR6⟩ := ih
    have fin : ∀ a k, a ≠ L → a ≠ L + 1 → R6 a k = R a k := fun a k h1 h2 => (KR6 a k h1 h2).trans (hR5 a k h1 h2)
    generalize hll : (ls_o P T on p b' s').2.2 = l' at f3 e6 c6 ⊢
    cases hmb : (on && decide (b' = 0)) with
    | true =>
      rw [if_neg (by decide), if_neg (by simp)]
      exact ⟨I6, J6, R6, t16, t26, e6, c6, hL6, ls_K_trans K13 K6, fin⟩
    | false =>
      have hsz : l'.length ≤ 25 := by rw [← hll]; have := hI3.1.1; omega
      rw [if_pos (by decide)]
      have q1 : (hv_u (hv_u R1 L 1 (some t2)) L 2 (some t1)) L 1 = some t2 := by rw [ev_uk (by omega), ev_us]
      simp only [ev_R, q1, ev_ob lT2.1, ev_b, e_TL_size hL5.2.2.1 f3.1]
      match l' with
      | [] =>
        rw [if_pos (by rfl), if_pos (by rfl)]
        exact ⟨I3, J3, _, t2, t1, rfl, c3, hL5, K13, hR5⟩
      | e :: r =>
        rw [if_neg (by rw [li_0, nI_eq (by simp at hsz ⊢; omega) (by omega)]; simp), if_neg (by simp)]
        exact ⟨I6, J6, R6, t16, t26, e6, c6, hL6, ls_K_trans K13 K6, fin⟩
theorem e_Ls_find {fr t1 t2 : Nat} {on : Bool} (dg : g + 3 < L ∨ L + 9 < g) (dx : x + 1 < L ∨ L + 9 < x) (hW : pg_W P) (hfr : fr ≤ T.1 + 1) (hL : ly_L sh R L t1 t2) (hG : ly_P sh R g) (hX : ly_X sh R x) (hp : pg_R I g P) (ht : tx_R I x T) :
    ∃ I' J' R' t1' t2', f_Ls_find L (some g) (some x) (nI fr) (bI on) (sh, I, J, R, n) = some ((ls_F P T on fr).1, (sh, I', J', R', n)) ∧ I' L 3 = nI (ls_F P T on fr).2 ∧ ly_L sh R' L t1' t2' ∧ ls_K L I I' J J' ∧ (∀ a k, a ≠ L → a ≠ L + 1 → R' a k = R a k) := by
  have t20 := ht.2.1
  have hLL := hL
  obtain ⟨l0, lF, lT1, lT2, r0, r1, r2, htt⟩ := hL
  have K0 : ls_K L I (hv_u I L 3 0) J J := fun a k h => by rw [ev_ua (by omega)]; exact ⟨rfl, rfl⟩
  have hp0 := pg_R_L K0 dg hp
  have ht0 := tx_R_L K0 dx ht
  have hc0 : (hv_u I L 3 0) L 3 = nI 0 := ev_us
  unfold f_Ls_find
  simp only [ev_b, ev_ob l0, ev_sI]
  generalize hv_u I L 3 0 = I0 at K0 hp0 ht0 hc0 ⊢
  obtain ⟨I1, J1, R1, e1, f1, g7, g8, K1, s5, s6, KR1⟩ := e_Fo_begin (sh := sh) (I := I0) (J := J) (R := R) (n := n) (f := L + 1) (t := t1) (g := g) (pl := fr) (ru := tx_r T fr) lF lT1 (by omega)
  have K1' : ls_K L I0 I1 J J1 := fun a k h => K1 a k (by omega) (by omega)
  have hR1 : ∀ a k, a ≠ L + 1 → R1 a k = R a k := fun a k h => KR1 a k (Or.inl h)
  have hL1 : ly_L sh R1 L t1 t2 := ⟨l0, ly_FR (fun k hk => KR1 _ k (by omega)) lF, ly_TR (fun k => hR1 _ k (by omega)) lT1, ly_TR (fun k => hR1 _ k (by omega)) lT2, (hR1 _ _ (by omega)).trans r0, (hR1 _ _ (by omega)).trans r1, (hR1 _ _ (by omega)).trans r2, htt⟩
  have hG1 : ly_P sh R1 g := ly_PR (fun k => hR1 _ k (by omega)) hG
  have hX1 : ly_X sh R1 x := ly_XR (fun k => hR1 _ k (by omega)) hX
  have hp1 := pg_R_L K1' dg hp0
  have ht1 := tx_R_L K1' dx ht0
  obtain ⟨I3, J3, e3, f3, K3⟩ := e_Fo_follow (n := n) (i := 0) (w := sl_w 0 0 fr) ⟨hL1.2.1, hL1.2.2.1, hG1, s5, s6, by omega, by omega, by omega⟩ hp1 hW g7 g8 (by omega) (by have := tx_r2 T fr; omega) (by have := hW.1; omega) (fo_J0 hW) f1
  have e3' : f_Fo_follow (L + 1) 0 (sl_w 0 0 fr) (sh, I1, J1, R1, n) = some (sh, I3, J3, R1, n) := e3
  have e4 : f_C_slotsFrom (nI fr) (sh, I1, J1, R1, n) = some (sl_w 0 0 fr, (sh, I1, J1, R1, n)) := rfl
  have K3' : ls_K L I1 I3 J1 J3 := fun a k h => K3.1 a k (by omega) (by omega)
  have r10 : R1 L 0 = some (L + 1) := hL1.2.2.2.2.1
  have hI3 : ls_I P fr fr (fo_F P fr (tx_r T fr) 0 (sl_w 0 0 fr) fo_0) := ls_IF hW (by omega) (by have := hW.1; omega) (sl_B_0 (by omega) (by omega)) (ls_I0 hW)
  obtain ⟨I6, J6, R6, t16, t26, e6, c6, hL6, K6, KR6⟩ := e_Ls_floop (n := n) (fr := fr) (on := on) dg dx hW (T.1 + 1 - fr) 100000 fr 0 0 (fo_F P fr (tx_r T fr) 0 (sl_w 0 0 fr) fo_0).2.2 I3 J3 R1 t1 t2 (by omega) (by omega) (Nat.le_refl _) hL1 hG1 hX1 (pg_R_L K3' dg hp1) (tx_R_L K3' dx ht1) (by have := hI3.1.1; omega) (fun e he => ⟨hI3.1.2 e he, hI3.2 e he⟩) f3.2.2.2.2 ((K3.1 L 3 (by omega) (by omega)).1.trans ((K1 L 3 (by omega) (by omega)).1.trans hc0))
  simp only [e_Fo_ruleAt hX ht0 (show fr < 31 by omega), ev_b, ev_R, r0, r1, ev_ob lF.1, ev_ob l0, e1, e4, r10, e3', e6]
  exact ⟨I6, J6, R6, t16, t26, rfl, c6, hL6, ls_K_trans K0 (ls_K_trans K1' (ls_K_trans K3' K6)), fun a k h1 h2 => (KR6 a k h1 h2).trans (hR1 a k h2)⟩
end LS
