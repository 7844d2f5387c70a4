/-! LEADS ARE RIGHT; the reference's search by states -/
def au_C (P : pg_P) (U : au_A) : Prop := ∀ (x : Nat) (s : au_S) (c j : Nat), U.1[x]? = some s → s.2.2 c = some j → ∃ s', U.1[j]? = some s' ∧ s'.1 = tr P (au_r2 P c s).2 ∧ s'.2.1 = au_o P s
section RS
variable {P : pg_P} {T : tx_T} {lim : Nat}
theorem au_i_get {r : List Nat} {b : Bool} : ∀ (K : List au_S) (k j : Nat), au_i r b K k = some j → ∃ s, K[j - k]? = some s ∧ s.1 = r ∧ s.2.1 = b
  | [], k, j, h => by cases h
  | s :: K, k, j, h => by
    unfold au_i at h
    split at h
    · next hq =>
      injection h with h; subst h
      rw [Nat.sub_self]
      exact ⟨s, rfl, hq⟩
    · have h1 := au_i_lt K (k + 1) j h
      obtain ⟨s', q1, q2⟩ := au_i_get K (k + 1) j h
      refine ⟨s', ?_, q2⟩
      rw [show j - k = (j - (k + 1)) + 1 from by omega, List.getElem?_cons_succ]
      exact q1
theorem au_kC {r : List Nat} {b : Bool} {U : au_A} (h : au_C P U) : au_C P (au_k lim r b U).2 ∧ ∀ x, (au_k lim r b U).1 = some x → ∃ s', (au_k lim r b U).2.1[x]? = some s' ∧ s'.1 = r ∧ s'.2.1 = b := by
  unfold au_k
  split
  · next k hk =>
    refine ⟨h, fun x hx => ?_⟩
    injection hx with hx; subst hx
    obtain ⟨s, q1, q2⟩ := au_i_get _ _ _ hk
    exact ⟨s, q1, q2⟩
  · split
    · refine ⟨fun x s c j hs hj => ?_, fun x hx => ?_⟩
      · have hs : (U.1 ++ [(r, b, fun _ => none)])[x]? = some s := hs
        have hx : x < U.1.length := by
          rcases Nat.lt_trichotomy x U.1.length with h1 | h1 | h1
          · exact h1
          · subst h1
            simp at hs
            subst hs
            cases hj
          · rw [List.getElem?_eq_none (by simp; omega)] at hs; cases hs
        rw [List.getElem?_append_left hx] at hs
        obtain ⟨s', q1, q2⟩ := h x s c j hs hj
        exact ⟨s', by show (U.1 ++ [(r, b, fun _ => none)])[j]? = _; rw [List.getElem?_append_left (gl q1)]; exact q1, q2⟩
      · injection hx with hx; subst hx
        exact ⟨(r, b, fun _ => none), by show (U.1 ++ [(r, b, fun _ => none)])[U.1.length]? = _; simp, rfl, rfl⟩
    · split
      · refine ⟨fun x s c j hs hj => ?_, fun x hx => ?_⟩
        · have hs : [(r, b, fun _ => none)][x]? = some s := hs
          match x with
          | 0 => simp at hs; subst hs; cases hj
          | x + 1 => simp at hs
        · injection hx with hx; subst hx
          exact ⟨(r, b, fun _ => none), rfl, rfl, rfl⟩
      · exact ⟨fun x s c j hs hj => by simp at hs, fun x hx => by cases hx⟩
theorem au_nC {c y : Nat} {U : au_A} {s : au_S} (hW : pg_W P) (hl : 1 ≤ lim) (hI : au_I P lim U) (h : au_C P U) (hy : U.1[y]? = some s) : au_C P (au_n P lim c y U).2 ∧ ∀ x, (au_n P lim c y U).1 = some x → ∃ s', (au_n P lim c y U).2.1[x]? = some s' ∧ s'.1 = tr P (au_r2 P c s).2 ∧ s'.2.1 = au_o P s := by
  unfold au_n
  rw [hy]
  dsimp only
  split
  · next hc => exact ⟨h, fun x hx => h y s c x hy hx⟩
  · have hsI := hI.2 s (List.mem_of_getElem? hy)
    obtain ⟨q1, q2⟩ := au_kC (lim := lim) (r := tr P (au_r2 P c s).2) (b := au_o P s) h
    obtain ⟨-, -, q3⟩ := au_kI (b := au_o P s) hl (au_rJ (c := c) hW hsI) hI rfl
    generalize au_k lim (tr P (au_r2 P c s).2) (au_o P s) U = q at q1 q2 q3
    unfold au_w
    by_cases hfl : q.2.2.1 = U.2.1
    · rw [if_pos hfl]
      obtain ⟨⟨v, hv⟩, K, hK⟩ := q3 hfl
      have hqy : q.2.1[y]? = some s := by rw [hK, List.getElem?_append_left (gl hy)]; exact hy
      have hset : ∀ (j : Nat) (s' : au_S), q.2.1[j]? = some s' → ∃ s2, (q.2.1.set y (s.1, s.2.1, fun j => if j = c then q.1 else s.2.2 j))[j]? = some s2 ∧ s2.1 = s'.1 ∧ s2.2.1 = s'.2.1 := fun j s' hj => by
        rw [List.getElem?_set]
        by_cases e : y = j
        · subst e
          rw [if_pos rfl, if_pos (gl hqy)]
          rw [hqy] at hj
          injection hj with hj
          subst hj
          exact ⟨_, rfl, rfl, rfl⟩
        · rw [if_neg e]
          exact ⟨s', hj, rfl, rfl⟩
      refine ⟨fun x s' d j hs hj => ?_, fun x hx => ?_⟩
      · have hs : (q.2.1.set y (s.1, s.2.1, fun j => if j = c then q.1 else s.2.2 j))[x]? = some s' := hs
        rw [List.getElem?_set] at hs
        by_cases e : y = x
        · subst e
          rw [if_pos rfl, if_pos (gl hqy)] at hs
          injection hs with hs
          subst hs
          have hj : (if d = c then q.1 else s.2.2 d) = some j := hj
          by_cases ed : d = c
          · subst ed
            rw [if_pos rfl] at hj
            obtain ⟨s', z1, z2, z3⟩ := q2 j hj
            obtain ⟨s2, w1, w2, w3⟩ := hset j s' z1
            exact ⟨s2, w1, w2.trans z2, w3.trans z3⟩
          · rw [if_neg ed] at hj
            obtain ⟨s', z1, z2, z3⟩ := q1 y s d j hqy hj
            obtain ⟨s2, w1, w2, w3⟩ := hset j s' z1
            exact ⟨s2, w1, w2.trans z2, w3.trans z3⟩
        · rw [if_neg e] at hs
          obtain ⟨s'', z1, z2, z3⟩ := q1 x s' d j hs hj
          obtain ⟨s2, w1, w2, w3⟩ := hset j s'' z1
          exact ⟨s2, w1, w2.trans z2, w3.trans z3⟩
      · obtain ⟨s', z1, z2, z3⟩ := q2 x hx
        obtain ⟨s2, w1, w2, w3⟩ := hset x s' z1
        exact ⟨s2, w1, w2.trans z2, w3.trans z3⟩
    · rw [if_neg hfl]
      exact ⟨q1, q2⟩
theorem over_on {p : Nat} (h1 : (rws P T p).1 = []) (h2 : (rws P T p).2.1 = false) : ∀ k, (rws P T (p + k)).1 = [] ∧ (rws P T (p + k)).2.1 = false
  | 0 => ⟨h1, h2⟩
  | k + 1 => by
    obtain ⟨q1, q2⟩ := over_on h1 h2 k
    have ho : au_o P (rws P T (p + k)) = false := by unfold au_o; rw [q2]; rfl
    refine ⟨?_, ho⟩
    show tr P (au_r2 P (T.2 (p + k)) (rws P T (p + k))).2 = []
    unfold au_r2
    rw [ho]
    unfold au_r
    rw [q1]
    rfl
theorem fin_over {q : Nat} (h : (rws P T q).1 = []) : fin P T q = false := by
  unfold fin
  rw [h]
  have : au_b P T [] = false := rfl
  rw [this]
  simp [hf]
theorem au_eC (hW : pg_W P) (hl : 1 ≤ lim) : ∀ (k p : Nat) (en : Option Nat) (y : Nat) (U : au_A) (s : au_S), p + k = T.1 + 1 → 1 ≤ k → au_I P lim U → au_C P U → U.1[y]? = some s → s.1 = (rws P T p).1 → s.2.1 = (rws P T p).2.1 → au_C P (au_e P T lim k p en (some y) U).2 ∧ ∀ e, (au_e P T lim k p en (some y) U).1 = some (some e) → (p ≤ e ∧ e ≤ T.1 ∧ fin P T e = true ∧ ∀ q, e < q → q ≤ T.1 → fin P T q = false) ∨ (en = some e ∧ ∀ q, p ≤ q → q ≤ T.1 → fin P T q = false)
  | 0, p, en, y, U, s, hpk, hk, _, _, _, _, _ => by omega
  | k + 1, p, en, y, U, s, hpk, hk, hI, hC, hy, h1, h2 => by
    have hae : au_e P T lim (k + 1) p en (some y) U = if p = T.1 ∨ (s.2.1 = false ∧ s.1 = []) then (some (au_en P T p s en), U) else au_e P T lim k (p + 1) (au_en P T p s en) (au_n P lim (T.2 p) y U).1 (au_n P lim (T.2 p) y U).2 := by
      conv => lhs; unfold au_e
      rw [hy]
    have hen : au_en P T p s en = if fin P T p = true then some p else en := by
      unfold au_en fin
      rw [h1]
    rw [hae]
    by_cases hst : p = T.1 ∨ (s.2.1 = false ∧ s.1 = [])
    · rw [if_pos hst]
      refine ⟨hC, fun e he => ?_⟩
      have he : some (au_en P T p s en) = some (some e) := he
      injection he with he
      rw [hen] at he
      have hno : ∀ q, p < q → q ≤ T.1 → fin P T q = false := fun q q1 q2 => by
        rcases hst with hst | hst
        · omega
        · have := over_on (T := T) (p := p) (by rw [← h1]; exact hst.2) (by rw [← h2]; exact hst.1) (q - p)
          rw [show p + (q - p) = q from by omega] at this
          exact fin_over this.1
      by_cases hf1 : fin P T p = true
      · rw [if_pos hf1] at he
        injection he with he
        subst he
        exact Or.inl ⟨Nat.le_refl _, by omega, hf1, hno⟩
      · rw [if_neg hf1] at he
        refine Or.inr ⟨he, fun q q1 q2 => ?_⟩
        by_cases e0 : q = p
        · subst e0; simpa using hf1
        · exact hno q (by omega) q2
    · rw [if_neg hst]
      have hp : p < T.1 := by
        have : ¬ p = T.1 := fun e => hst (Or.inl e)
        omega
      obtain ⟨c1, c2⟩ := au_nC (c := T.2 p) hW hl hI hC hy
      obtain ⟨i1, i2⟩ := au_nI (c := T.2 p) (x := y) hW hl hI
      match hx : (au_n P lim (T.2 p) y U).1 with
      | none =>
        have e0 : au_e P T lim k (p + 1) (au_en P T p s en) none (au_n P lim (T.2 p) y U).2 = (none, (au_n P lim (T.2 p) y U).2) := by
          match k, hpk with
          | k + 1, _ => rfl
          | 0, hpk => rfl
        rw [e0]
        exact ⟨c1, fun e he => by cases he⟩
      | some x =>
        obtain ⟨s', z1, z2, z3⟩ := c2 x hx
        have r2 : au_r2 P (T.2 p) s = au_r2 P (T.2 p) (rws P T p) := by
          unfold au_r2 au_o au_r
          rw [h1, h2]
        have ro : au_o P s = au_o P (rws P T p) := by
          unfold au_o
          rw [h1, h2]
        obtain ⟨w1, w2⟩ := au_eC hW hl k (p + 1) (au_en P T p s en) x (au_n P lim (T.2 p) y U).2 s' (by omega) (by omega) i1 c1 z1 (by rw [z2, r2]; rfl) (by rw [z3, ro]; rfl)
        refine ⟨w1, fun e he => ?_⟩
        rcases w2 e he with q | ⟨q1, q2⟩
        · exact Or.inl ⟨by omega, q.2.1, q.2.2⟩
        · rw [hen] at q1
          by_cases hf1 : fin P T p = true
          · rw [if_pos hf1] at q1
            injection q1 with q1
            subst q1
            exact Or.inl ⟨Nat.le_refl _, by omega, hf1, fun q a1 a2 => q2 q (by omega) a2⟩
          · rw [if_neg hf1] at q1
            refine Or.inr ⟨q1, fun q a1 a2 => ?_⟩
            by_cases e0 : q = p
            · subst e0; simpa using hf1
            · exact q2 q (by omega) a2
theorem au_EC {U : au_A} (hW : pg_W P) (hl : 1 ≤ lim) (h20 : T.1 ≤ 20) (hI : au_I P lim U) (hC : au_C P U) : au_C P (au_E P T lim U).2 ∧ ∀ e, (au_E P T lim U).1 = some (some e) → e ≤ T.1 ∧ ∃ s, s ≤ e ∧ (ls_F P T false s).1 ≠ 0 ∧ sl_g (ls_F P T false s).1 1 = nI e := by
  have hC0 : au_C P (U.1, U.2.1, 0, 0) := hC
  have hI0 : au_I P lim (U.1, U.2.1, 0, 0) := hI
  obtain ⟨c1, c2⟩ := au_kC (lim := lim) (r := tr P (ro_F P 0 2 0 (fun _ => false, [])).2) (b := true) hC0
  obtain ⟨b1, b2, -⟩ := au_kI (b := true) hl (ro_FJ (pl := 0) (ru := 2) hW (ro_J0 hW) hW.1) hI0 rfl
  unfold au_E
  match hx : (au_1 P lim (U.1, U.2.1, 0, 0)).1 with
  | none => exact ⟨c1, fun e he => by cases he⟩
  | some x =>
    obtain ⟨s', z1, z2, z3⟩ := c2 x hx
    obtain ⟨w1, w2⟩ := au_eC (T := T) hW hl (T.1 + 1) 0 none x (au_1 P lim (U.1, U.2.1, 0, 0)).2 s' (by omega) (by omega) b1 c1 z1 z2 z3
    refine ⟨w1, fun e he => ?_⟩
    rcases w2 e he with ⟨-, q1, q2, q3⟩ | ⟨q1, -⟩
    · exact ⟨q1, hit hW h20 q1 q2 q3⟩
    · cases q1
/-- the leftmost thread that ends at en -/
noncomputable def lm (P : pg_P) (T : tx_T) (en : Nat) : Nat → Nat → Int64
  | 0, _ => 0
  | k + 1, fr => if (ls_F P T false fr).1 ≠ 0 ∧ sl_g (ls_F P T false fr).1 1 = nI en then (ls_F P T false fr).1 else lm P T en k (fr + 1)
theorem ls_gc {p : Nat} : ∀ (l : List (Nat × Int64)) (c d : Nat) (s : fo_T), (ls_g P T p l c s).1 = (ls_g P T p l d s).1 ∧ (ls_g P T p l c s).2.2 = (ls_g P T p l d s).2.2
  | [], c, d, s => ⟨rfl, rfl⟩
  | (i, w) :: r, c, d, s => by
    unfold ls_g
    split
    · exact ⟨rfl, rfl⟩
    · exact ls_gc r _ _ _
theorem ls_fc {on : Bool} : ∀ (k p : Nat) (b : Int64) (c d : Nat) (l : List (Nat × Int64)), (ls_f P T on k p b c l).1 = (ls_f P T on k p b d l).1
  | 0, p, b, c, d, l => rfl
  | k + 1, p, b, c, d, l => by
    rw [ls_fs, ls_fs]
    obtain ⟨h1, h2⟩ := ls_gc (P := P) (T := T) (p := p) l c d fo_0
    rw [h1, h2]
    exact ls_fc k _ _ _ _ _
end RS
section RT
variable {sh : Nat → Option (Nat × Nat)} {I : Nat → Nat → Int32} {J : Nat → Nat → Int64} {R : Nat → Nat → Option Nat} {n g lim : Nat} {P : pg_P} {T : tx_T}
theorem e_Mo_lloop {en : Nat} {x2 : Int32} (hl : ly_M sh R g) (hW : pg_W P) (hen : en ≤ T.1) :
    ∀ (k N fr S c : Nat) (m : Nat → Bool) (b : Int64) (I : Nat → Nat → Int32), k + 1 < N → fr + k = en + 1 → S + 30 * k + 30 < 2 ^ 31 → mo_P I g P → mo_X I g T → mm_R I g S m → I g 36 = nI c → bs_R I g b → ((k = 0 ∧ True) ∨ (b ≠ 0 → sl_g b 1 ≠ nI en)) → (∃ s, fr ≤ s ∧ s ≤ en ∧ (ls_F P T false s).1 ≠ 0 ∧ sl_g (ls_F P T false s).1 1 = nI en) → nw_R I g →
    ∃ I' S' m' c', L_Mo_runStates_40 N (some g) (nI en) x2 (nI fr) (sh, I, J, R, n) = some (sh, I', J, R, n) ∧ bs_R I' g (lm P T en k fr) ∧ S' ≤ S + 30 * k ∧ mm_R I' g S' m' ∧ I' g 36 = nI c' ∧ nw_R I' g ∧ rl_K g I I'
  | k, 0, _, _, _, _, _, _, h, _, _, _, _, _, _, _, _, _, _ => by omega
  | 0, N + 1, fr, S, c, m, b, I, hN, hk, hS, hp, ht, hm, hc, hb, hnb, ⟨s, s1, s2, _⟩, hn => by omega
  | k + 1, N + 1, fr, S, c, m, b, I, hN, hk, hS, hp, ht, hm, hc, hb, hnb, ⟨s, s1, s2, s3, s4⟩, hn => by
    have t20 := ht.2.1
    have hnb : b ≠ 0 → sl_g b 1 ≠ nI en := hnb.resolve_left (fun h => by omega)
    obtain ⟨I1, S1, m1, e1, c1, b1, z1, mm1, K1, n1⟩ := e_Mo_runLists (J := J) (n := n) (fr := fr) (on := false) hl hW (show fr ≤ T.1 + 1 by omega) (show S + 30 < 2 ^ 31 by omega) hp ht hm hc
    have e1' : f_Mo_runLists g (nI fr) 1 (sh, I, J, R, n) = some (sh, I1, J, R, n) := e1
    have hF : (ls_f P T false (T.1 + 1 - fr) fr 0 c (fo_F P fr (tx_r T fr) 0 (sl_w 0 0 fr) fo_0).2.2).1 = (ls_F P T false fr).1 := ls_fc _ _ _ _ _ _
    rw [hF] at b1
    have x1 : x_ix 8 1 = some 1 := by decide
    have hgo : L_Mo_runStates_40 (N + 1) (some g) (nI en) x2 (nI fr) (sh, I, J, R, n) = L_Mo_runStates_40 N (some g) (nI en) x2 (nI (fr + 1)) (sh, I1, J, R, n) := by
      conv => lhs; rw [L_Mo_runStates_40]
      rw [if_neg (by rw [nI_ltI (by omega) (by omega)]; omega)]
      simp only [ev_ob (ms_o hl), ev_b, ev_I]
      rcases hb with ⟨hb0, hf0⟩ | ⟨hb0, hf0, hsl⟩
      · rw [if_pos hf0, e1', ev_b, nI_1]
      · have h1 := hsl 1 (by omega)
        rw [Nat.zero_add] at h1
        rw [hf0, if_neg (by decide)]
        simp only [ev_R, mr_40 hl, ev_ar0 (ms_23 hl), ev_b, x1, h1]
        rw [if_neg (hnb hb0), e1', ev_b, nI_1]
    rw [hgo]
    unfold lm
    by_cases hhit : (ls_F P T false fr).1 ≠ 0 ∧ sl_g (ls_F P T false fr).1 1 = nI en
    · rw [if_pos hhit]
      refine ⟨I1, S1, m1, _, ?_, b1, by omega, mm1, c1, n1, K1⟩
      match N, hN with
      | N + 1, hN =>
        rw [L_Mo_runStates_40]
        by_cases hlast : en < fr + 1
        · rw [if_pos (by rw [nI_ltI (by omega) (by omega)]; exact hlast)]
        · rw [if_neg (by rw [nI_ltI (by omega) (by omega)]; exact hlast)]
          simp only [ev_ob (ms_o hl), ev_b, ev_I]
          rcases b1 with ⟨hb0, hf0⟩ | ⟨hb0, hf0, hsl⟩
          · exact absurd hb0 hhit.1
          · have h1 := hsl 1 (by omega)
            rw [Nat.zero_add] at h1
            rw [hf0, if_neg (by decide)]
            simp only [ev_R, mr_40 hl, ev_ar0 (ms_23 hl), ev_b, x1, h1]
            rw [if_pos hhit.2]
    · rw [if_neg hhit]
      have hsf : fr + 1 ≤ s := by
        rcases Nat.lt_or_ge fr s with h | h
        · omega
        · have : s = fr := by omega
          subst this
          exact absurd ⟨s3, s4⟩ hhit
      obtain ⟨I2, S2, m2, c2, e2, b2, z2, mm2, d2, n2, K2⟩ := e_Mo_lloop hl hW hen k N (fr + 1) S1 _ m1 (ls_F P T false fr).1 I1 (by omega) (by omega) (by omega) (mo_P_r K1 hp) (mo_X_r K1 ht) mm1 c1 b1 (Or.inr (fun h1 h2 => hhit ⟨h1, h2⟩)) ⟨s, hsf, s2, s3, s4⟩ n1
      exact ⟨I2, S2, m2, c2, e2, b2, by omega, mm2, d2, n2, rl_K_trans K1 K2⟩
/-- match and count of a search by states -/
noncomputable def rs_F (P : pg_P) (T : tx_T) (lim : Nat) (U : au_A) : Int64 × Nat :=
  match (au_E P T lim U).1 with
  | none => ls_F P T true 0
  | some none => (0, (au_E P T lim U).2.2.2.2)
  | some (some e) => (lm P T e (e + 1) 0, (au_E P T lim U).2.2.2.2)
def rn_K (g : Nat) (I I' : Nat → Nat → Int32) : Prop := ∀ a k, (a ≠ g ∨ (k ≠ 16 ∧ k ≠ 18 ∧ k ≠ 27 ∧ k ≠ 28 ∧ k ≠ 29 ∧ k ≠ 34 ∧ k ≠ 36 ∧ k ≠ 37 ∧ k ≠ 39)) → (a < g + 9 ∨ g + 23 < a) → I' a k = I a k
theorem kp_rl {I' : Nat → Nat → Int32} {U : au_A} {c : Nat} (hI : au_I P lim U) (h : rl_K g I I') (hc : I' g 36 = nI c) (hk : kp_R I g lim U) : kp_R I' g lim (U.1, U.2.1, U.2.2.1, c) := by
  obtain ⟨h1, h2, h3, h4, h5, h6⟩ := hk
  exact ⟨(h _ _ (by omega) (by omega) (by omega)).trans h1, (h _ _ (by omega) (by omega) (by omega)).trans h2, (h _ _ (by omega) (by omega) (by omega)).trans h3, hc, (h _ _ (by omega) (by omega) (by omega)).trans h5, fun k s hs => ks_mono (hI.2 s (List.mem_of_getElem? hs)).1 (fun a j q => h _ _ (by omega) (by omega) (by omega)) (h6 k s hs)⟩
theorem e_Mo_runStates {B S : Nat} {U : au_A} (hl : ly_M sh R g) (hl1 : 1 ≤ lim) (hlim : lim ≤ 19) (hW : pg_W P) (hB : B < 2 ^ 30) (hS : S + 2000 < 2 ^ 31) (hp : mo_P I g P) (ht : mo_X I g T) (hI : au_I P lim U) (hI2 : au_I P lim (au_E P T lim U).2) (hC : au_C P U) (hf : U.2.1 ≤ B) (hk : kp_R I g lim U) (h36 : I g 36 = nI 0) (hs : sm_R I g S) :
    ∃ I', f_Mo_runStates g (sh, I, J, R, n) = some (sh, I', J, R, n) ∧ kp_R I' g lim ((au_E P T lim U).2.1, (au_E P T lim U).2.2.1, (au_E P T lim U).2.2.2.1, (rs_F P T lim U).2) ∧ bs_R I' g (rs_F P T lim U).1 ∧ I' g 37 = (if (au_E P T lim U).1 = none then 0 else I g 37) ∧ sm_R I' g (S + 1000) ∧ rn_K g I I' := by
  have t20 := ht.2.1
  obtain ⟨I1, e1, k1, m1, K1⟩ := e_Mo_endByStates (J := J) (n := n) hl hl1 hlim hW hB (show S + 100 < 2 ^ 31 by omega) hp ht hI hf hk h36 hs
  obtain ⟨-, hhit⟩ := au_EC (T := T) hW hl1 t20 hI hC
  have hp1 := mo_P_s K1 hp
  have ht1 := mo_X_s K1 ht
  have K0 : ∀ a k, (a ≠ g ∨ k ≠ 39) → (hv_u I1 g 39 0) a k = I1 a k := fun a k h => by
    rcases h with h | h
    · rw [ev_ua h]
    · rw [ev_uk h]
  have h37 : I1 g 37 = I g 37 := K1 _ _ (by omega) (by omega)
  have k1w := k1.2.2.2.1
  have mono_k : ∀ I2, (∀ a k, (a ≠ g ∨ (k ≠ 36 ∧ k ≠ 37 ∧ k ≠ 39)) → I2 a k = I1 a k) → ∀ c, I2 g 36 = nI c → kp_R I2 g lim ((au_E P T lim U).2.1, (au_E P T lim U).2.2.1, (au_E P T lim U).2.2.2.1, c) := fun I2 h c hc => by
    obtain ⟨h1, h2, h3, h4, h5, h6⟩ := k1
    exact ⟨(h _ _ (by omega)).trans h1, (h _ _ (by omega)).trans h2, (h _ _ (by omega)).trans h3, hc, (h _ _ (by omega)).trans h5, fun k s hs => ks_mono (hI2.2 s (List.mem_of_getElem? hs)).1 (fun a j q => h _ _ (by omega)) (h6 k s hs)⟩
  unfold f_Mo_runStates
  simp only [ev_ob (ms_o hl), ev_b, e1, ev_sI, ev_I]
  unfold rs_F
  match hE : (au_E P T lim U).1 with
  | none =>
    rw [if_pos (show dI none = -2 from rfl)]
    have q36 : (hv_u (hv_u (hv_u I1 g 39 0) g 36 0) g 37 0) g 36 = nI 0 := by rw [ev_uk (by omega), ev_us]; rfl
    have q37 : (hv_u (hv_u (hv_u I1 g 39 0) g 36 0) g 37 0) g 37 = 0 := ev_us
    have Q : ∀ a k, (a ≠ g ∨ (k ≠ 36 ∧ k ≠ 37 ∧ k ≠ 39)) → (hv_u (hv_u (hv_u I1 g 39 0) g 36 0) g 37 0) a k = I1 a k := fun a k h => by
      by_cases ha : a = g
      · rw [ev_uk (by omega), ev_uk (by omega), ev_uk (by omega)]
      · rw [ev_ua ha, ev_ua ha, ev_ua ha]
    generalize hv_u (hv_u (hv_u I1 g 39 0) g 36 0) g 37 0 = I2 at q36 q37 Q ⊢
    have k2 := mono_k I2 Q 0 q36
    have hp2 : mo_P I2 g P := ⟨(Q _ _ (by omega)).trans hp1.1, fun i hi => ⟨(Q _ _ (by omega)).trans (hp1.2 i hi).1, (Q _ _ (by omega)).trans (hp1.2 i hi).2.1, (Q _ _ (by omega)).trans (hp1.2 i hi).2.2⟩⟩
    have ht2 : mo_X I2 g T := ⟨(Q _ _ (by omega)).trans ht1.1, t20, fun k hk => ⟨(Q _ _ (by omega)).trans (ht1.2.2 k hk).1, (ht1.2.2 k hk).2⟩⟩
    obtain ⟨⟨S1, m, hS1, hm⟩, hn⟩ := m1
    obtain ⟨I3, S3, m3, e3, c3, b3, z3, mm3, K3, n3⟩ := e_Mo_runLists (J := J) (n := n) (fr := 0) (c := 0) (on := true) hl hW (Nat.zero_le _) (show S1 + 30 < 2 ^ 31 by omega) hp2 ht2 (mm_R_mono (fun j => Q _ _ (by omega)) (Q _ _ (by omega)) hm) q36
    have e3' : f_Mo_runLists g 0 0 (sh, I2, J, R, n) = some (sh, I3, J, R, n) := e3
    rw [e3', ev_b]
    refine ⟨I3, rfl, ?_, b3, ?_, ⟨⟨S3, m3, by omega, mm3⟩, n3⟩, fun a k h1 h2 => ?_⟩
    · exact kp_rl (c := (ls_F P T true 0).2) (U := ((au_E P T lim U).2.1, (au_E P T lim U).2.2.1, (au_E P T lim U).2.2.2.1, 0)) hI2 K3 c3 k2
    · rw [if_pos rfl, K3 _ _ (by omega) (by omega) (by omega)]; exact q37
    · rw [K3 _ _ (by omega) (by omega) (by omega), Q _ _ (by omega)]
      exact K1 _ _ (by omega) (by omega)
  | some none =>
    rw [if_neg (show ¬ dI (some none) = -2 by decide)]
    have hlt : L_Mo_runStates_40 100000 (some g) (dI (some none)) ((hv_u I1 g 39 0) g 36) 0 (sh, hv_u I1 g 39 0, J, R, n) = some (sh, hv_u I1 g 39 0, J, R, n) := by
      rw [L_Mo_runStates_40, if_pos (show dI (some none) < 0 by decide)]
    simp only [hlt, ev_b, ev_ob (ms_o hl), ev_sI]
    have e0 : hv_u (hv_u I1 g 39 0) g 36 (hv_u I1 g 39 0 g 36) = hv_u I1 g 39 0 := by
      funext a k
      unfold hv_u
      by_cases h : k = 36 ∧ a = g
      · rw [if_pos h, h.1, h.2]
      · rw [if_neg h]
    rw [e0]
    refine ⟨_, rfl, mono_k _ (fun a k h => K0 a k (by omega)) _ (by rw [K0 _ _ (by omega)]; exact k1w), Or.inl ⟨rfl, ev_us⟩, ?_, sm_mono (by omega) (fun a k h => K0 _ _ (by omega)) m1, fun a k h1 h2 => ?_⟩
    · rw [if_neg (by simp), K0 _ _ (by omega)]; exact h37
    · rw [K0 _ _ (by omega)]
      exact K1 _ _ (by omega) (by omega)
  | some (some e) =>
    obtain ⟨he, s, s1, s2, s3⟩ := hhit e hE
    rw [if_neg (show ¬ dI (some (some e)) = -2 by
      show ¬ nI e = -2
      intro q
      have := congrArg Int32.toInt q
      rw [nI_toInt (by omega), show (-2 : Int32).toInt = -2 from by decide] at this
      omega)]
    have hp2 : mo_P (hv_u I1 g 39 0) g P := ⟨(K0 _ _ (by omega)).trans hp1.1, fun i hi => ⟨(K0 _ _ (by omega)).trans (hp1.2 i hi).1, (K0 _ _ (by omega)).trans (hp1.2 i hi).2.1, (K0 _ _ (by omega)).trans (hp1.2 i hi).2.2⟩⟩
    have ht2 : mo_X (hv_u I1 g 39 0) g T := ⟨(K0 _ _ (by omega)).trans ht1.1, t20, fun k hk => ⟨(K0 _ _ (by omega)).trans (ht1.2.2 k hk).1, (ht1.2.2 k hk).2⟩⟩
    obtain ⟨⟨S1, m, hS1, hm⟩, hn⟩ := m1
    have k2 := mono_k (hv_u I1 g 39 0) (fun a k h => K0 a k (by omega)) _ (by rw [K0 _ _ (by omega)]; exact k1w)
    obtain ⟨I3, S3, m3, c3, e3, b3, z3, mm3, d3, n3, K3⟩ := e_Mo_lloop (J := J) (n := n) (en := e) (x2 := (hv_u I1 g 39 0) g 36) hl hW he (e + 1) 100000 0 S1 (au_E P T lim U).2.2.2.2 m 0 (hv_u I1 g 39 0) (by omega) (by omega) (by omega) hp2 ht2 (mm_R_mono (fun j => K0 _ _ (by omega)) (K0 _ _ (by omega)) hm) (by rw [K0 _ _ (by omega)]; exact k1w) (Or.inl ⟨rfl, ev_us⟩) (Or.inr (fun h => absurd rfl h)) ⟨s, Nat.zero_le _, s1, s2, s3⟩ (nw_mono (fun k => K0 _ _ (by omega)) hn)
    have e3' : L_Mo_runStates_40 100000 (some g) (dI (some (some e))) ((hv_u I1 g 39 0) g 36) 0 (sh, hv_u I1 g 39 0, J, R, n) = some (sh, I3, J, R, n) := e3
    simp only [e3', ev_b, ev_ob (ms_o hl), ev_sI]
    have w36 : (hv_u I1 g 39 0) g 36 = nI (au_E P T lim U).2.2.2.2 := by rw [K0 _ _ (by omega)]; exact k1w
    rw [w36]
    have Q : ∀ a k, (a ≠ g ∨ k ≠ 36) → (hv_u I3 g 36 (nI (au_E P T lim U).2.2.2.2)) a k = I3 a k := fun a k h => by
      rcases h with h | h
      · rw [ev_ua h]
      · rw [ev_uk h]
    refine ⟨_, rfl, ?_, bs_R_mono (Q _ _ (by omega)) (fun k => Q _ _ (by omega)) b3, ?_, ⟨⟨S3, m3, by omega, mm_R_mono (fun j => Q _ _ (by omega)) (Q _ _ (by omega)) mm3⟩, nw_mono (fun k => Q _ _ (by omega)) n3⟩, fun a k h1 h2 => ?_⟩
    · refine kp_rl (U := ((au_E P T lim U).2.1, (au_E P T lim U).2.2.1, (au_E P T lim U).2.2.2.1, (au_E P T lim U).2.2.2.2)) hI2 (fun a k h1 h2 h3 => (Q a k (by omega)).trans (K3 a k h1 h2 h3)) ev_us k2
    · rw [if_neg (by simp), Q _ _ (by omega), K3 _ _ (by omega) (by omega) (by omega), K0 _ _ (by omega)]; exact h37
    · rw [Q _ _ (by omega), K3 _ _ (by omega) (by omega) (by omega), K0 _ _ (by omega)]
      exact K1 _ _ (by omega) (by omega)
end RT
