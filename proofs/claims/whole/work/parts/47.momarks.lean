/-! THE REFERENCE'S SEARCH WITH MARKS -/
def rm_K (g : Nat) (I I' : Nat → Nat → Int32) : Prop := ∀ a k, (a ≠ g ∨ (k ≠ 18 ∧ k ≠ 36 ∧ k ≠ 39)) → (a < g + 10 ∨ g + 13 < a) → a ≠ g + 17 → a ≠ g + 23 → I' a k = I a k
theorem rm_refl {g : Nat} {I : Nat → Nat → Int32} : rm_K g I I := fun _ _ _ _ _ _ => rfl
theorem rm_trans {g : Nat} {I I' I2 : Nat → Nat → Int32} (h : rm_K g I I') (k : rm_K g I' I2) : rm_K g I I2 := fun a j h1 h2 h3 h4 => (k a j h1 h2 h3 h4).trans (h a j h1 h2 h3 h4)
theorem rm_bh {g : Nat} {I I' : Nat → Nat → Int32} (h : bh_K g I I') : rm_K g I I' := fun a j h1 h2 h3 h4 => h a j (by omega) h2
theorem mo_P_m {g : Nat} {I I' : Nat → Nat → Int32} {P : pg_P} (h : rm_K g I I') (hp : mo_P I g P) : mo_P I' g P := by
  obtain ⟨p0, p1⟩ := hp
  refine ⟨(h _ _ (by omega) (by omega) (by omega) (by omega)).trans p0, fun i hi => ?_⟩
  obtain ⟨a, b, c⟩ := p1 i hi
  exact ⟨(h _ _ (by omega) (by omega) (by omega) (by omega)).trans a, (h _ _ (by omega) (by omega) (by omega) (by omega)).trans b, (h _ _ (by omega) (by omega) (by omega) (by omega)).trans c⟩
theorem mo_X_m {g : Nat} {I I' : Nat → Nat → Int32} {T : tx_T} (h : rm_K g I I') (ht : mo_X I g T) : mo_X I' g T :=
  ⟨(h _ _ (by omega) (by omega) (by omega) (by omega)).trans ht.1, ht.2.1, fun k hk => ⟨(h _ _ (by omega) (by omega) (by omega) (by omega)).trans (ht.2.2 k hk).1, (ht.2.2 k hk).2⟩⟩
def vs_R (I : Nat → Nat → Int32) (g : Nat) (V : Nat → Bool) : Prop := ∀ v, v < 1344 → I (g + 17) v = bI (V v)
theorem vs_R_mono {g : Nat} {I I' : Nat → Nat → Int32} {V : Nat → Bool} (h : ∀ k, I' (g + 17) k = I (g + 17) k) (hv : vs_R I g V) : vs_R I' g V := fun v h1 => (h v).trans (hv v h1)
section MT
variable {sh : Nat → Option (Nat × Nat)} {I : Nat → Nat → Int32} {J : Nat → Nat → Int64} {R : Nat → Nat → Option Nat} {n g : Nat} {P : pg_P} {T : tx_T}
theorem e_tb {x y : Int32} {nx r : mk_S} (hl : ly_M sh R g) (hr : r.length < 600) (hb : ∀ e, e ∈ nx → e.1 < 49) (hb2 : ∀ e, e ∈ r → e.1 < 49) (h : (nx = [] ∧ x = -1 ∧ I g 18 = nI r.length ∧ wy_R I g r) ∨ (nx ≠ [] ∧ bh_R I g x (nx ++ r) ∧ (∀ e r', nx = e :: r' → y = nI e.2.1))) :
    ∃ x' y' I', ((if x = -1 then (x_ob (sh, I, J, R, n) 11 (some g)).bind fun a23 => (f_Mo_back a23 (sh, I, J, R, n)).bind fun p24 => ((if p24.1 = -1 then some y else (x_ob p24.2 11 (some g)).bind fun a25 => (x_ar p24.2 0 (hv_R p24.2 a25 20)).bind fun q26 => (x_ix q26.2 (hv_I p24.2 a25 18)).bind fun k27 => some (hv_I p24.2 q26.1 k27)) : Option Int32).bind fun t28 => some (t28, p24.1, p24.2) else some (y, x, (sh, I, J, R, n))) : Option (Int32 × Int32 × hv_S)) = some (y', x', (sh, I', J, R, n)) ∧ bh_R I' g x' (nx ++ r) ∧ (∀ e r', nx ++ r = e :: r' → y' = nI e.2.1) ∧ bh_K g I I' ∧ (nw_R I g → nw_R I' g) := by
  rcases h with ⟨rfl, rfl, h1, h2⟩ | ⟨h0, h1, h2⟩
  · obtain ⟨x, I1, e1, q1, q2, q3, q4⟩ := e_Mo_back (J := J) (n := n) hl h1 hr h2
    rw [if_pos rfl]
    simp only [ev_b, ev_ob (ms_o hl), e1]
    match r with
    | [] =>
      have hx : x = -1 := q1.1
      rw [if_pos hx, ev_b]
      exact ⟨x, y, I1, rfl, q1, fun e r' h => (by simp at h), q2, q4⟩
    | e :: r =>
      obtain ⟨z1, z2, z3, z4⟩ := q1
      have hlr : r.length < 600 := by simp only [List.length_cons] at hr; omega
      rw [if_neg (by rw [z1, ev_n1 (by have := hb2 e List.mem_cons_self; omega)]; exact not_false)]
      simp only [ev_R, mr_20 hl, ev_ar0 (ms_11 hl), ev_b, ev_I, z2, ev_ix hlr (show 600 < 2 ^ 31 by omega)]
      refine ⟨x, _, I1, rfl, ⟨z1, z2, z3, z4⟩, fun e' r' h => ?_, q2, q4⟩
      have h : e :: r = e' :: r' := h
      injection h with h3 h4
      subst h3
      rw [q3]
      exact h2.2.1
  · have hx : ¬ x = -1 := by
      match nx with
      | [] => exact absurd rfl h0
      | e :: nx =>
        intro hx
        have h1 := h1.1
        rw [hx] at h1
        have := ev_n1 (a := e.1) (by have := hb e List.mem_cons_self; omega)
        rw [← h1] at this
        exact (this.mp rfl).elim
    rw [if_neg hx]
    refine ⟨x, y, I, rfl, h1, fun e r' h => ?_, bh_K_refl, fun h => h⟩
    match nx with
    | [] => exact absurd rfl h0
    | e' :: nx =>
      have h : e' :: (nx ++ r) = e :: r' := h
      injection h with h3 h4
      subst h3
      exact h2 _ _ rfl
theorem e_Mo_tloop (hl : ly_M sh R g) (hW : pg_W P) :
    ∀ (k N : Nat) (s : mk_S) (V : Nat → Bool) (c : Nat) (x y : Int32) (I : Nat → Nat → Int32), k + 2 < N → mk_m P s V ≤ k → mk_I P T s V → mo_P I g P → mo_X I g T → bh_R I g x s → (∀ e r, s = e :: r → y = nI e.2.1) → vs_R I g V → I g 36 = nI c → I g 39 = 0 →
    ∃ I', L_Mo_runThread_14 N (some g) x y (sh, I, J, R, n) = some (sh, I', J, R, n) ∧ vs_R I' g (mk_f P T k s V c).2.1 ∧ I' g 36 = nI (mk_f P T k s V c).2.2 ∧ bs_R I' g (mk_f P T k s V c).1 ∧ rm_K g I I' ∧ (nw_R I g → nw_R I' g)
  | k, 0, _, _, _, _, _, _, h, _, _, _, _, _, _, _, _, _ => by omega
  | k, N + 1, [], V, c, x, y, I, hN, hm, hI, hp, ht, hb, hy, hv, hc, hf => by
    have hx : x = -1 := hb.1
    rw [L_Mo_runThread_14, if_pos hx, mk_fn]
    exact ⟨I, rfl, hv, hc, Or.inl ⟨rfl, hf⟩, rm_refl, fun h => h⟩
  | 0, N + 1, e :: r, V, c, x, y, I, hN, hm, hI, hp, ht, hb, hy, hv, hc, hf => by
    unfold mk_m at hm
    rw [List.length_cons] at hm
    omega
  | k + 1, N + 1, (i, p, w) :: r, V, c, x, y, I, hN, hm, hI, hp, ht, hb, hy, hv, hc, hf => by
    have t20 := ht.2.1
    have hn49 := hW.2.1
    obtain ⟨b0, b1, b2, b3⟩ := hb
    have hx : x = nI i := b0
    have hy' : y = nI p := hy _ _ rfl
    have b1 : I g 18 = nI r.length := b1
    have b2 : sl_R I (g + 13) 0 w := b2
    subst hx hy'
    have h0 := hI.1 (i, p, w) List.mem_cons_self
    have hi : i < P.1 := h0.1
    have hpT : p ≤ T.1 := h0.2.1
    have hlen := hI.2
    rw [List.length_cons] at hlen
    have hr49 : ∀ e, e ∈ r → e.1 < 49 := fun e he => by have := (hI.1 e (List.mem_cons_of_mem _ he)).1; omega
    have x1 := ev_ix (N := 1344) (k := 21 * i + p) (by omega) (by omega)
    have x2 := ev_ix (N := 64) (k := i) (by omega) (by omega)
    have hvi := hv (21 * i + p) (by omega)
    rw [L_Mo_runThread_14, if_neg (by rw [ev_n1 (by omega)]; exact not_false)]
    simp only [ev_ob (ms_o hl), ev_b, ev_I, hf, ev_R, mr_26 hl, ev_ar3 (ms_17 hl), li_21, pk_mul, nI_add, x1, hvi]
    rw [if_pos trivial, mk_fc]
    by_cases hV : V (21 * i + p) = true
    · rw [hV, if_neg (show ¬ bI true = 0 by decide), ev_b, if_pos (show true = true from rfl)]
      obtain ⟨x', y', I1, e1, q1, q2, q3, q4⟩ := e_tb (J := J) (n := n) (x := -1) (y := nI p) (nx := []) (r := r) hl (by omega) (fun e he => by cases he) hr49 (Or.inl ⟨rfl, rfl, b1, b3⟩)
      rw [e1, ev_b]
      have hm2 : mk_m P ((i, p, w) :: r) V = mk_m P r V + 1 := by unfold mk_m; rw [List.length_cons]; omega
      obtain ⟨I2, e2, v2, c2, s2, K2, n2⟩ := e_Mo_tloop hl hW k N r V c x' y' I1 (by omega) (by omega) ⟨fun e he => hI.1 e (List.mem_cons_of_mem _ he), by omega⟩ (mo_P_m (rm_bh q3) hp) (mo_X_m (rm_bh q3) ht) q1 q2 (vs_R_mono (fun k => q3 _ _ (by omega) (by omega)) hv) ((q3 _ _ (by omega) (by omega)).trans hc) ((q3 _ _ (by omega) (by omega)).trans hf)
      exact ⟨I2, e2, v2, c2, s2, rm_trans (rm_bh q3) K2, fun h => n2 (q4 h)⟩
    · have hV' : V (21 * i + p) = false := by simpa using hV
      rw [hV', if_pos (show bI false = 0 by decide), if_neg (show ¬ false = true by decide)]
      have nb : vp_nar .boolean 1 = 1 := by decide
      have hK1 : ∀ a k, (a ≠ g ∨ k ≠ 36) → a ≠ g + 17 → (hv_u (hv_u I (g + 17) (21 * i + p) 1) g 36 (nI (c + 1))) a k = I a k := fun a k h1 h2 => by
        have : (hv_u (hv_u I (g + 17) (21 * i + p) 1) g 36 (nI (c + 1))) a k = (hv_u I (g + 17) (21 * i + p) 1) a k := by
          rcases h1 with h1 | h1
          · rw [ev_ua h1]
          · rw [ev_uk h1]
        rw [this, ev_ua h2]
      have hv1 : vs_R (hv_u (hv_u I (g + 17) (21 * i + p) 1) g 36 (nI (c + 1))) g (fo_mk V (21 * i + p)) := fun v h1 => by
        rw [ev_ua (by omega)]
        unfold fo_mk
        by_cases e : v = 21 * i + p
        · rw [e, ev_us, decide_eq_true rfl]; rfl
        · rw [ev_uk e, hv v h1, decide_eq_false e]; rfl
      have hc1 : (hv_u (hv_u I (g + 17) (21 * i + p) 1) g 36 (nI (c + 1))) g 36 = nI (c + 1) := ev_us
      simp only [ev_sI, nb, ev_I, ev_R, ev_ua (show g ≠ g + 17 by omega), hc, nI_1]
      generalize hv_u (hv_u I (g + 17) (21 * i + p) 1) g 36 (nI (c + 1)) = I1 at hK1 hv1 hc1 ⊢
      have K1 : rm_K g I I1 := fun a k h1 h2 h3 h4 => hK1 a k (by omega) h3
      have hp1 := mo_P_m K1 hp
      have ht1 := mo_X_m K1 ht
      have hf1 : I1 g 39 = 0 := (hK1 _ _ (by omega) (by omega)).trans hf
      have b11 : I1 g 18 = nI r.length := (hK1 _ _ (by omega) (by omega)).trans b1
      have b21 : sl_R I1 (g + 13) 0 w := fun k hk => (hK1 _ _ (by omega) (by omega)).trans (b2 k hk)
      have b31 : wy_R I1 g r := wy_R_mono r (fun k hk => ⟨hK1 _ _ (by omega) (by omega), hK1 _ _ (by omega) (by omega)⟩) (fun k hk => hK1 _ _ (by omega) (by omega)) b3
      have hk7 := (hW.2.2.1 i hi).1
      simp only [mr_7 hl, ev_ar0 (ms_3 hl), ev_b, x2, (hp1.2 i hi).1]
      by_cases hk : P.2.1 i = 7
      · have ntk : tk P T i p = false := by unfold tk; exact decide_eq_false (by omega)
        rw [if_pos (by rw [hk]; rfl), if_pos hk]
        obtain ⟨I2, e2, f2, s2, k2⟩ := e_Mo_note (J := J) (n := n) hl (show p < 31 by omega) b21
        have K2 : rm_K g I1 I2 := fun a k h1 h2 h3 h4 => k2 a k (by omega) (by omega)
        have hp2 := mo_P_m K2 hp1
        have ht2 := mo_X_m K2 ht1
        have b22 : sl_R I2 (g + 13) 0 w := fun k hk => (k2 _ _ (by omega) (by omega)).trans (b21 k hk)
        have b12 : I2 g 18 = nI r.length := (k2 _ _ (by omega) (by omega)).trans b11
        have b32 : wy_R I2 g r := wy_R_mono r (fun k hk => ⟨k2 _ _ (by omega) (by omega), k2 _ _ (by omega) (by omega)⟩) (fun k hk => k2 _ _ (by omega) (by omega)) b31
        simp only [e2, ev_b, ev_ob (ms_o hl), e_Mo_isRight hl hp2 hW ht2 hi (show p < 31 by omega), ntk]
        rw [if_pos (show bI false = 0 by decide)]
        obtain ⟨x3, I3, e3, K3, c3⟩ := e_Mo_behind (J := J) (n := n) hl hp2 hW hi (show p < 31 by omega) ht2.1 (show T.1 < 31 by omega) b12 (by omega) b22 b32
        have hnx : fo_nx P p (if p = T.1 then 1 else 0) i w = [] := by
          unfold fo_nx
          rw [if_neg (by omega), if_neg (by omega), if_neg (by omega), if_neg (by omega), if_neg (by omega)]
        rw [hnx] at c3
        rcases c3 with ⟨-, rfl, rfl⟩ | ⟨c3, -⟩
        · simp only [e3, ev_b, ev_ob (ms_o hl), e_Mo_isRight hl hp2 hW ht2 hi (show p < 31 by omega), ntk]
          rw [if_pos (show bI false = 0 by decide), ev_b]
          obtain ⟨x', y', I4, e4, q1, q2, q3, q4⟩ := e_tb (J := J) (n := n) (x := -1) (y := nI p) (nx := []) (r := r) hl (by omega) (fun e he => by cases he) hr49 (Or.inl ⟨rfl, rfl, b12, b32⟩)
          rw [e4, ev_b]
          have f4 : I4 g 39 = 1 := (q3 _ _ (by omega) (by omega)).trans f2
          match N, hN with
          | N + 1, hN =>
            have e5 : L_Mo_runThread_14 (N + 1) (some g) x' y' (sh, I4, J, R, n) = some (sh, I4, J, R, n) := by
              rw [L_Mo_runThread_14]
              by_cases hx : x' = -1
              · rw [if_pos hx]
              · rw [if_neg hx, ev_ob (ms_o hl), ev_b, ev_I, f4, if_neg (by decide)]
            refine ⟨I4, e5, ?_, ?_, ?_, rm_trans K1 (rm_trans K2 (rm_bh q3)), fun _ => q4 ⟨w, b22⟩⟩
            · exact vs_R_mono (fun k => (q3 _ _ (by omega) (by omega)).trans (k2 _ _ (by omega) (by omega))) hv1
            · exact (q3 _ _ (by omega) (by omega)).trans ((k2 _ _ (by omega) (by omega)).trans hc1)
            · refine Or.inr ⟨?_, f4, fun k hk => (q3 _ _ (by omega) (by omega)).trans (s2 k hk)⟩
              obtain ⟨b, b1, b2, b3⟩ := h0.2.2
              exact sl_ne (p := b) (by rw [sl_gw (by omega) (by omega) (by omega), if_neg (by omega)]; exact b3) (by omega)
        · exact absurd rfl c3
      · rw [if_neg (by rw [li_7, nI_eq (by omega) (by omega)]; exact hk), if_neg hk]
        obtain ⟨v1, v2, v3⟩ := mk_inv hW t20 hI hV'
        have hnb : ∀ e, e ∈ mk_nx P T i p w → e.1 < 49 := fun e he => by have := (mk_nx_ok hW t20 h0 e he).1; omega
        simp only [ev_b, ev_ob (ms_o hl), e_Mo_isRight hl hp1 hW ht1 hi (show p < 31 by omega)]
        by_cases htk : tk P T i p = true
        · have hnx : mk_nx P T i p w = [(i + 1, p + 1, w)] := by unfold mk_nx; rw [if_pos htk]
          rw [htk, if_neg (show ¬ bI true = 0 by decide), ev_b]
          simp only [ev_b, ev_ob (ms_o hl), e_Mo_isRight hl hp1 hW ht1 hi (show p < 31 by omega), htk]
          rw [if_neg (show ¬ bI true = 0 by decide), ev_b]
          obtain ⟨x', y', I4, e4, q1, q2, q3, q4⟩ := e_tb (J := J) (n := n) (x := nI (i + 1)) (y := nI (p + 1)) (nx := mk_nx P T i p w) (r := r) hl (by omega) hnb hr49 (Or.inr ⟨by rw [hnx]; simp, by rw [hnx]; exact ⟨rfl, b11, b21, b31⟩, fun e r' h => by
            rw [hnx] at h
            injection h with h3 h4
            subst h3
            rfl⟩)
          rw [e4, ev_b]
          have K14 := rm_trans K1 (rm_bh q3)
          obtain ⟨I5, e5, v5, c5, s5, K5, n5⟩ := e_Mo_tloop hl hW k N (mk_nx P T i p w ++ r) (fo_mk V (21 * i + p)) (c + 1) x' y' I4 (by omega) (by omega) v1 (mo_P_m K14 hp) (mo_X_m K14 ht) q1 q2 (vs_R_mono (fun k => q3 _ _ (by omega) (by omega)) hv1) ((q3 _ _ (by omega) (by omega)).trans hc1) ((q3 _ _ (by omega) (by omega)).trans hf1)
          exact ⟨I5, e5, v5, c5, s5, rm_trans K14 K5, fun _ => n5 (q4 ⟨w, b21⟩)⟩
        · have htk' : tk P T i p = false := by simpa using htk
          have hnx : mk_nx P T i p w = fw p (fo_nx P p (tx_r T p) i w) := by unfold mk_nx; rw [if_neg htk]
          rw [htk', if_pos (show bI false = 0 by decide)]
          obtain ⟨x3, I3, e3, K3, c3⟩ := e_Mo_behind (J := J) (n := n) hl hp1 hW hi (show p < 31 by omega) ht1.1 (show T.1 < 31 by omega) b11 (by omega) b21 b31
          have hnw3 : nw_R I3 g := by
            rcases c3 with ⟨c1, rfl, rfl⟩ | ⟨c1, c2⟩
            · exact ⟨w, b21⟩
            · have key : ∀ z : List (Nat × Int64), z ≠ [] → bh_R I3 g x3 (z.map (fun e => (e.1, p, e.2)) ++ r) → nw_R I3 g := fun z h1 h2 => by
                match z with
                | [] => exact absurd rfl h1
                | e :: r' => exact ⟨e.2, h2.2.2.1⟩
              exact key _ c1 c2
          have hp3 := mo_P_m (rm_bh K3) hp1
          have ht3 := mo_X_m (rm_bh K3) ht1
          simp only [e3, ev_b, ev_ob (ms_o hl), e_Mo_isRight hl hp3 hW ht3 hi (show p < 31 by omega), htk']
          rw [if_pos (show bI false = 0 by decide), ev_b]
          obtain ⟨x', y', I4, e4, q1, q2, q3, q4⟩ := e_tb (J := J) (n := n) (x := x3) (y := nI p) (nx := mk_nx P T i p w) (r := r) (I := I3) hl (by omega) hnb hr49 (by
            rcases c3 with ⟨c1, rfl, rfl⟩ | ⟨c1, c2⟩
            · refine Or.inl ⟨?_, rfl, b11, b31⟩
              rw [hnx]
              have c1 : fo_nx P p (tx_r T p) i w = [] := c1
              rw [c1]; rfl
            · refine Or.inr ⟨?_, ?_, ?_⟩
              · rw [hnx]
                intro h
                exact c1 (List.map_eq_nil_iff.mp h)
              · rw [hnx]; exact c2
              · intro e r' h
                rw [hnx] at h
                have he : e ∈ fw p (fo_nx P p (tx_r T p) i w) := by rw [h]; exact List.mem_cons_self
                obtain ⟨e', a1, a2⟩ := List.mem_map.mp he
                subst a2
                rfl)
          rw [e4, ev_b]
          have K14 := rm_trans K1 (rm_trans (rm_bh K3) (rm_bh q3))
          have K34 := bh_K_trans K3 q3
          obtain ⟨I5, e5, v5, c5, s5, K5, n5⟩ := e_Mo_tloop hl hW k N (mk_nx P T i p w ++ r) (fo_mk V (21 * i + p)) (c + 1) x' y' I4 (by omega) (by omega) v1 (mo_P_m K14 hp) (mo_X_m K14 ht) q1 q2 (vs_R_mono (fun k => K34 _ _ (by omega) (by omega)) hv1) ((K34 _ _ (by omega) (by omega)).trans hc1) ((K34 _ _ (by omega) (by omega)).trans hf1)
          exact ⟨I5, e5, v5, c5, s5, rm_trans K14 K5, fun _ => n5 (q4 hnw3)⟩
theorem e_Mo_runThread {fr c : Nat} {V : Nat → Bool} (hl : ly_M sh R g) (hW : pg_W P) (hp : mo_P I g P) (ht : mo_X I g T) (hfr : fr ≤ T.1) (hv : vs_R I g V) (hc : I g 36 = nI c) (hf : I g 39 = 0) :
    ∃ I', f_Mo_runThread g (nI fr) (sh, I, J, R, n) = some (sh, I', J, R, n) ∧ vs_R I' g (mk_f P T mk_N.1 [(0, fr, sl_w 0 0 fr)] V c).2.1 ∧ I' g 36 = nI (mk_f P T mk_N.1 [(0, fr, sl_w 0 0 fr)] V c).2.2 ∧ bs_R I' g (mk_f P T mk_N.1 [(0, fr, sl_w 0 0 fr)] V c).1 ∧ rm_K g I I' ∧ nw_R I' g := by
  have t20 := ht.2.1
  obtain ⟨I1, e1, n1, k1⟩ := e_Mo_begin (I := hv_u I g 18 0) (J := J) (n := n) hl (show fr < 31 by omega)
  have K0 : ∀ a k, (a ≠ g ∨ k ≠ 18) → a ≠ g + 13 → I1 a k = I a k := fun a k h1 h2 => by
    rw [k1 a k h2]
    rcases h1 with h1 | h1
    · rw [ev_ua h1]
    · rw [ev_uk h1]
  have K1 : rm_K g I I1 := fun a k h1 h2 h3 h4 => K0 a k (by omega) (by omega)
  have h0 : mk_ok P T (0, fr, sl_w 0 0 fr) := ⟨hW.1, hfr, sl_B_le (show fr ≤ 20 by omega) (sl_B_0 (by omega) (Nat.zero_le _))⟩
  have hm0 := mk_m0 (V := V) hW (e := (0, fr, sl_w 0 0 fr))
  obtain ⟨I2, e2, v2, c2, s2, K2, n2⟩ := e_Mo_tloop (J := J) (n := n) hl hW mk_N.1 100000 [(0, fr, sl_w 0 0 fr)] V c (nI 0) (nI fr) I1 (by rw [mk_N.2]; omega) (by rw [mk_N.2]; exact hm0) (mk_I0 hW h0) (mo_P_m K1 hp) (mo_X_m K1 ht) ⟨rfl, by rw [k1 _ _ (by omega), ev_us]; rfl, n1, trivial⟩ (fun e r h => by
    injection h with h3 h4
    subst h3
    rfl) (vs_R_mono (fun k => K0 _ _ (by omega) (by omega)) hv) ((K0 _ _ (by omega) (by omega)).trans hc) ((K0 _ _ (by omega) (by omega)).trans hf)
  have e2' : L_Mo_runThread_14 100000 (some g) 0 (nI fr) (sh, I1, J, R, n) = some (sh, I2, J, R, n) := e2
  unfold f_Mo_runThread
  simp only [ev_b, ev_ob (ms_o hl), ev_sI, e1, e2']
  exact ⟨I2, rfl, v2, c2, s2, rm_trans K1 K2, n2 ⟨_, n1⟩⟩
theorem e_Mo_mloop (hl : ly_M sh R g) (hW : pg_W P) :
    ∀ (k N fr : Nat) (V : Nat → Bool) (c : Nat) (I : Nat → Nat → Int32), k + 1 < N → fr + k = T.1 + 1 → mo_P I g P → mo_X I g T → vs_R I g V → I g 36 = nI c → I g 39 = 0 →
    ∃ I', L_Mo_runMarks_29 N (some g) (nI fr) (sh, I, J, R, n) = some (sh, I', J, R, n) ∧ I' g 36 = nI (mk_l P T k fr V c).2 ∧ bs_R I' g (mk_l P T k fr V c).1 ∧ rm_K g I I' ∧ (nw_R I g → nw_R I' g)
  | k, 0, _, _, _, _, h, _, _, _, _, _, _ => by omega
  | 0, N + 1, fr, V, c, I, hN, hfr, hp, ht, hv, hc, hf => by
    have t20 := ht.2.1
    rw [L_Mo_runMarks_29]
    simp only [ev_ob (ms_o hl), ev_b, ev_I, ht.1]
    rw [if_pos (by rw [nI_ltI (by omega) (by omega)]; omega)]
    exact ⟨I, rfl, hc, Or.inl ⟨rfl, hf⟩, rm_refl, fun h => h⟩
  | k + 1, N + 1, fr, V, c, I, hN, hfr, hp, ht, hv, hc, hf => by
    have t20 := ht.2.1
    obtain ⟨I1, e1, v1, c1, s1, K1, n1⟩ := e_Mo_runThread (J := J) (n := n) hl hW hp ht (show fr ≤ T.1 by omega) hv hc hf
    rw [L_Mo_runMarks_29]
    simp only [ev_ob (ms_o hl), ev_b, ev_I, ht.1, hf]
    rw [if_neg (by rw [nI_ltI (by omega) (by omega)]; omega), if_pos trivial, e1, ev_b, nI_1]
    unfold mk_l
    by_cases hz : (mk_f P T mk_N.1 [(0, fr, sl_w 0 0 fr)] V c).1 = 0
    · rw [if_pos hz]
      have hf1 : I1 g 39 = 0 := by
        rcases s1 with ⟨_, h⟩ | ⟨h, _⟩
        · exact h
        · exact absurd hz h
      obtain ⟨I2, e2, c2, s2, K2, n2⟩ := e_Mo_mloop hl hW k N (fr + 1) _ _ I1 (by omega) (by omega) (mo_P_m K1 hp) (mo_X_m K1 ht) v1 c1 hf1
      exact ⟨I2, e2, c2, s2, rm_trans K1 K2, fun _ => n2 n1⟩
    · rw [if_neg hz]
      have hf1 : ¬ I1 g 39 = 0 := by
        rcases s1 with ⟨h, _⟩ | ⟨_, h, _⟩
        · exact absurd h hz
        · rw [h]; decide
      match N, hN with
      | N + 1, hN =>
        refine ⟨I1, ?_, c1, s1, K1, fun _ => n1⟩
        rw [L_Mo_runMarks_29]
        simp only [ev_ob (ms_o hl), ev_b, ev_I]
        rw [if_neg hf1]
        split <;> rfl
theorem e_Mo_clear (hl : ly_M sh R g) : ∀ (j N : Nat) (I : Nat → Nat → Int32), j ≤ 1344 → j < N →
    ∃ I', L_Mo_runMarks_7 N (some g) (nI (1344 - j)) (sh, I, J, R, n) = some (sh, I', J, R, n) ∧ (∀ k, 1344 - j ≤ k → k < 1344 → I' (g + 17) k = 0) ∧ (∀ b k, (b ≠ g + 17 ∨ k < 1344 - j) → I' b k = I b k)
  | j, 0, _, _, h => by omega
  | 0, N + 1, I, _, _ => by
    rw [L_Mo_runMarks_7, if_pos (by decide)]
    exact ⟨I, rfl, fun k h1 h2 => by omega, fun b k _ => rfl⟩
  | j + 1, N + 1, I, hj, hN => by
    have nb : vp_nar .boolean 0 = 0 := by decide
    have li : (1344 : Int32) = nI 1344 := rfl
    rw [L_Mo_runMarks_7, if_neg (by rw [li, nI_leI (by omega) (by omega)]; omega)]
    have x1 := ev_ix (N := 1344) (k := 1344 - (j + 1)) (by omega) (by omega)
    simp only [ev_ob (ms_o hl), ev_b, ev_R, mr_26 hl, ev_ar3 (ms_17 hl), x1, ev_sI, nb, nI_1]
    rw [show 1344 - (j + 1) + 1 = 1344 - j from by omega]
    obtain ⟨I', e1, a1, a2⟩ := e_Mo_clear hl j N (hv_u I (g + 17) (1344 - (j + 1)) 0) (by omega) (by omega)
    refine ⟨I', e1, fun k h1 h2 => ?_, fun b k h => ?_⟩
    · by_cases e : k = 1344 - (j + 1)
      · rw [a2 _ k (by omega), e, ev_us]
      · exact a1 k (by omega) h2
    · rw [a2 b k (by omega)]
      rcases h with h | h
      · rw [ev_ua h]
      · rw [ev_uk (by omega)]
theorem e_Mo_runMarks {c : Nat} (hl : ly_M sh R g) (hW : pg_W P) (hp : mo_P I g P) (ht : mo_X I g T) (hc : I g 36 = nI c) :
    ∃ I', f_Mo_runMarks g (sh, I, J, R, n) = some (sh, I', J, R, n) ∧ I' g 36 = nI (mk_l P T (T.1 + 1) 0 (fun _ => false) c).2 ∧ bs_R I' g (mk_l P T (T.1 + 1) 0 (fun _ => false) c).1 ∧ rm_K g I I' ∧ (nw_R I g → nw_R I' g) := by
  have t20 := ht.2.1
  obtain ⟨I1, e1, a1, a2⟩ := e_Mo_clear (J := J) (n := n) hl 1344 100000 (hv_u I g 39 0) (Nat.le_refl _) (by omega)
  have e1' : L_Mo_runMarks_7 100000 (some g) 0 (sh, hv_u I g 39 0, J, R, n) = some (sh, I1, J, R, n) := e1
  have K1 : rm_K g I I1 := fun a k h1 h2 h3 h4 => by
    rw [a2 a k (Or.inl h3)]
    by_cases ha : a = g
    · rw [ev_uk (by omega)]
    · rw [ev_ua ha]
  obtain ⟨I2, e2, c2, s2, K2, n2⟩ := e_Mo_mloop (J := J) (n := n) (T := T) hl hW (T.1 + 1) 100000 0 (fun _ => false) c I1 (by omega) (by omega) (mo_P_m K1 hp) (mo_X_m K1 ht) (fun v h => a1 v (by omega) h) (by rw [a2 _ _ (by omega), ev_uk (by omega)]; exact hc) (by rw [a2 _ _ (by omega), ev_us])
  have e2' : L_Mo_runMarks_29 100000 (some g) 0 (sh, I1, J, R, n) = some (sh, I2, J, R, n) := e2
  unfold f_Mo_runMarks
  simp only [ev_b, ev_ob (ms_o hl), ev_sI, e1', e2']
  exact ⟨I2, rfl, c2, s2, rm_trans K1 K2, fun h => n2 (nw_mono (fun k => by rw [a2 _ _ (by omega), ev_ua (by omega)]) h)⟩
end MT
