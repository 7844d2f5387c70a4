/-! THE REFERENCE: where a single thread is enough -/
def wz_R (I : Nat → Nat → Int32) (g : Nat) : List Nat → Prop
  | [] => True
  | i :: r => I (g + 10) r.length = nI i ∧ wz_R I g r
theorem wz_mono {I I' : Nat → Nat → Int32} {g : Nat} : ∀ (r : List Nat), (∀ k, k < r.length → I' (g + 10) k = I (g + 10) k) → wz_R I g r → wz_R I' g r
  | [], _, _ => trivial
  | i :: r, h, ⟨h1, h2⟩ => ⟨(h _ (by simp)).trans h1, wz_mono r (fun k hk => h k (by simp; omega)) h2⟩
def is_R (I : Nat → Nat → Int32) (g : Nat) (x : Int32) : List Nat → Prop
  | [] => x = -1 ∧ I g 18 = nI 0
  | i :: r => x = nI i ∧ I g 18 = nI r.length ∧ wz_R I g r
def is_K (g : Nat) (I I' : Nat → Nat → Int32) : Prop := ∀ a k, (a ≠ g ∨ k ≠ 18) → a ≠ g + 9 → a ≠ g + 10 → I' a k = I a k
theorem is_refl {g : Nat} {I : Nat → Nat → Int32} : is_K g I I := fun _ _ _ _ _ => rfl
theorem is_trans {g : Nat} {I I' I2 : Nat → Nat → Int32} (h : is_K g I I') (k : is_K g I' I2) : is_K g I I2 := fun a j h1 h2 h3 => (k a j h1 h2 h3).trans (h a j h1 h2 h3)
theorem fo_tw {P : pg_P} {pl ru : Nat} : ∀ (k : Nat) (s : fo_S), s.2.2.1 = true → (fo_n P pl ru k s).2.2.1 = true
  | 0, s, h => h
  | k + 1, ([], m, t, l), h => by rw [fo_e]; exact h
  | k + 1, ((i, w) :: r, m, t, l), h => by
    unfold fo_n
    refine fo_tw k _ ?_
    rw [fo_1c]
    split
    · rfl
    · exact h
theorem fo_lapp {P : pg_P} {pl ru : Nat} (k : Nat) (s : fo_S) : ∃ L, (fo_n P pl ru k s).2.2.2.map (fun e => e.1) = s.2.2.2.map (fun e => e.1) ++ L := by
  have h := congrArg (fun z => z.2.2) (er_n (P := P) (pl := pl) (ru := ru) k s)
  have h : (fo_n P pl ru k s).2.2.2.map (fun e => e.1) = (ro_n P pl ru k (er s)).2.2 := h
  rw [h]
  have h2 := ro_app (P := P) (pl := pl) (ru := ru) k (er s).1 (er s).2.1 (er s).2.2
  exact ⟨_, congrArg (fun z => z.2.2) h2⟩
section MP
variable {sh : Nat → Option (Nat × Nat)} {I : Nat → Nat → Int32} {J : Nat → Nat → Int64} {R : Nat → Nat → Option Nat} {n g : Nat} {P : pg_P}
theorem mo_P_i {I' : Nat → Nat → Int32} (h : is_K g I I') (hp : mo_P I g P) : mo_P I' g P := by
  obtain ⟨p0, p1⟩ := hp
  refine ⟨(h _ _ (by omega) (by omega) (by omega)).trans p0, fun i hi => ?_⟩
  obtain ⟨a, b, c⟩ := p1 i hi
  exact ⟨(h _ _ (by omega) (by omega) (by omega)).trans a, (h _ _ (by omega) (by omega) (by omega)).trans b, (h _ _ (by omega) (by omega) (by omega)).trans c⟩
/-- back to a way that waits -/
theorem e_is_pop {N : Nat} {sn : Int32} {r : List Nat} (hl : ly_M sh R g) (hr : r.length < 600) (h1 : I g 18 = nI r.length) (h2 : wz_R I g r) : ∃ x I', ((x_ob (sh, I, J, R, n) 11 (some g)).bind fun a28 => if hv_I (sh, I, J, R, n) a28 18 = 0 then L_Mo_isSingle_19 N (some g) sn (-1) (sh, I, J, R, n) else (some (hv_setI (sh, I, J, R, n) a28 18 (hv_I (sh, I, J, R, n) a28 18 - 1))).bind fun s29 => (x_ar s29 0 (hv_R s29 a28 19)).bind fun q30 => (x_ix q30.2 (hv_I s29 a28 18)).bind fun k31 => (some (hv_I s29 q30.1 k31)).bind fun y32 => L_Mo_isSingle_19 N (some g) sn y32 s29) = L_Mo_isSingle_19 N (some g) sn x (sh, I', J, R, n) ∧ is_R I' g x r ∧ is_K g I I' ∧ (∀ k, I' (g + 9) k = I (g + 9) k) := by
  simp only [ev_ob (ms_o hl), ev_b, ev_I, h1]
  match r with
  | [] =>
    rw [if_pos (show nI ([] : List Nat).length = 0 from rfl)]
    exact ⟨-1, I, rfl, ⟨rfl, h1⟩, is_refl, fun _ => rfl⟩
  | i :: r =>
    simp only [List.length_cons] at h1 hr ⊢
    rw [if_neg (by rw [li_0, nI_eq (by omega) (by omega)]; omega)]
    have x1 := ev_ix (N := 600) (k := r.length) (by omega) (by omega)
    simp only [li_1, pk_sub (show 1 ≤ r.length + 1 by omega), Nat.add_sub_cancel, ev_sI, ev_R, mr_19 hl, ev_ar0 (ms_10 hl), ev_b, ev_I, ev_us, x1, ev_ua (show g + 10 ≠ g by omega), h2.1]
    exact ⟨_, _, rfl, ⟨rfl, ev_us, wz_mono r (fun k hk => ev_ua (by omega)) h2.2⟩, fun a k q1 q2 q3 => by
      rcases q1 with q | q
      · rw [ev_ua q]
      · rw [ev_uk q], fun k => ev_ua (by omega)⟩
theorem e_Mo_isloop {S : Nat} (hl : ly_M sh R g) (hW : pg_W P) :
    ∀ (k N : Nat) (s : fo_S) (sn : Nat) (x : Int32) (I : Nat → Nat → Int32), k < N → fo_m P s ≤ k → fo_I P s → s.2.2.1 = false → sn < 256 → (∀ L, dj P 0 (s.2.2.2.map (fun e => e.1) ++ L) = dj P sn L) → mo_P I g P → mm_R I g S s.2.1 → is_R I g x (s.1.map (fun e => e.1)) →
    ∃ I', ((L_Mo_isSingle_19 N (some g) (nI sn) x (sh, I, J, R, n)).bind fun e57r => e57r.elim (fun e57 => some ((1 : Int32), e57)) (fun w => some w)) = some (bI (!(fo_n P 0 1 k s).2.2.1 && dj P 0 ((fo_n P 0 1 k s).2.2.2.map (fun e => e.1))), (sh, I', J, R, n)) ∧ (∃ m, mm_R I' g S m) ∧ is_K g I I'
  | k, 0, _, _, _, _, h, _, _, _, _, _, _, _, _ => by omega
  | k, N + 1, ([], m, t, l), sn, x, I, hN, hm, hI, ht, hsn, hdj, hp, hmm, hx => by
    have hx1 : x = -1 := hx.1
    have ht : t = false := ht
    have hd := hdj []
    rw [List.append_nil] at hd
    rw [L_Mo_isSingle_19, if_pos hx1, fo_e]
    refine ⟨I, ?_, ⟨m, hmm⟩, is_refl⟩
    show some ((1 : Int32), (sh, I, J, R, n)) = some (bI (!t && dj P 0 (l.map (fun e => e.1))), (sh, I, J, R, n))
    have hd : dj P 0 (l.map (fun e => e.1)) = dj P sn [] := hd
    rw [ht, hd]
    rfl
  | 0, N + 1, (e :: r, m, t, l), sn, x, I, hN, hm, hI, ht, hsn, hdj, hp, hmm, hx => by
    unfold fo_m at hm
    simp only [List.length_cons] at hm
    omega
  | k + 1, N + 1, ((i, w) :: r, m, t, l), sn, x, I, hN, hm, hI, ht, hsn, hdj, hp, hmm, hx => by
    have h49 := hW.2.1
    obtain ⟨i1, i2, i3, i4⟩ := hI
    have hi : i < P.1 := i1 (i, w) List.mem_cons_self
    have i2 : (r.length + 1) + ct (fun j => !m j && pg_s P j) P.1 ≤ 25 := i2
    obtain ⟨x0, x1, x2⟩ := hx
    have x0 : x = nI i := x0
    have x1 : I g 18 = nI (r.map (fun e => e.1)).length := x1
    have x2 : wz_R I g (r.map (fun e => e.1)) := x2
    subst x0
    have ht : t = false := ht
    subst ht
    have hrl : (r.map (fun e : Nat × Int64 => e.1)).length = r.length := List.length_map ..
    have hdj : ∀ L, dj P 0 (l.map (fun e => e.1) ++ L) = dj P sn L := hdj
    have hmm : mm_R I g S m := hmm
    have xi := ev_ix (N := 64) (k := i) (by omega) (by omega)
    have hmi := mm_R_t hmm (show i < 49 by omega)
    obtain ⟨w7, wf, w2, w3, w4, w0⟩ := hW.2.2.1 i hi
    have hinv := fo_inv (pl := 0) (ru := 1) (s := ((i, w) :: r, m, false, l)) hW ⟨i1, i2, i3, i4⟩
    have hdec := hinv.2 (by simp)
    have hro : fo_n P 0 1 (k + 1) ((i, w) :: r, m, false, l) = fo_n P 0 1 k (fo_1 P 0 1 ((i, w) :: r, m, false, l)) := rfl
    rw [hro]
    rw [fo_1c] at hinv hdec ⊢
    rw [L_Mo_isSingle_19, if_neg (by rw [ev_n1 (by omega)]; exact not_false)]
    simp only [ev_ob (ms_o hl), ev_b, ev_R, mr_17 hl, ev_ar0 (ms_9 hl), xi, ev_I]
    by_cases hmk : m i = true
    · rw [hmk, decide_eq_true_eq] at hmi
      rw [if_pos hmi, if_pos hmk, fo_tw k _ rfl]
      exact ⟨I, rfl, ⟨m, hmm⟩, is_refl⟩
    · have hmk' : m i = false := by simpa using hmk
      rw [if_neg hmk] at hinv hdec ⊢
      rw [hmk', decide_eq_false_iff_not] at hmi
      rw [if_neg hmi]
      have hK1 : ∀ a k, a ≠ g + 9 → (hv_u I (g + 9) i (I g 16)) a k = I a k := fun a k h => ev_ua h
      have hm1 := mm_R_set (i := i) hmm
      simp only [ev_sI, ev_I, ev_R, mr_7 hl, mr_8 hl, mr_9 hl, mr_19 hl, ev_ar0 (ms_3 hl), ev_ar0 (ms_4 hl), ev_ar0 (ms_5 hl), ev_ar0 (ms_10 hl), ev_b, xi, ev_ua (show g + 3 ≠ g + 9 by omega), ev_ua (show g + 4 ≠ g + 9 by omega), ev_ua (show g + 5 ≠ g + 9 by omega), ev_ua (show g ≠ g + 9 by omega), (hp.2 i hi).1, (hp.2 i hi).2.1, (hp.2 i hi).2.2, x1]
      generalize hv_u I (g + 9) i (I g 16) = I1 at hK1 hm1 ⊢
      have K1 : is_K g I I1 := fun a k q1 q2 q3 => hK1 a k q2
      have x11 : I1 g 18 = nI (r.map (fun e => e.1)).length := (hK1 _ _ (by omega)).trans x1
      have x21 : wz_R I1 g (r.map (fun e => e.1)) := wz_mono _ (fun k hk => hK1 _ _ (by omega)) x2
      have hp1 := mo_P_i K1 hp
      have hfin : ∀ (x' : Int32) (I2 : Nat → Nat → Int32) (sn' : Nat), sn' < 256 → (∀ L, dj P 0 ((if fo_en P 1 i = true then l ++ [(i, w)] else l).map (fun e => e.1) ++ L) = dj P sn' L) → is_R I2 g x' ((fo_nx P 0 1 i w ++ r).map (fun e => e.1)) → is_K g I1 I2 → (∀ k, I2 (g + 9) k = I1 (g + 9) k) → ∃ I', ((L_Mo_isSingle_19 N (some g) (nI sn') x' (sh, I2, J, R, n)).bind fun e57r => e57r.elim (fun e57 => some ((1 : Int32), e57)) (fun w => some w)) = some (bI (!(fo_n P 0 1 k (fo_nx P 0 1 i w ++ r, fo_mk m i, false, if fo_en P 1 i = true then l ++ [(i, w)] else l)).2.2.1 && dj P 0 ((fo_n P 0 1 k (fo_nx P 0 1 i w ++ r, fo_mk m i, false, if fo_en P 1 i = true then l ++ [(i, w)] else l)).2.2.2.map (fun e => e.1))), (sh, I', J, R, n)) ∧ (∃ m, mm_R I' g S m) ∧ is_K g I I' := fun x' I2 sn' q1 q2 q3 q4 q5 => by
        obtain ⟨I3, e3, m3, K3⟩ := e_Mo_isloop hl hW k N (fo_nx P 0 1 i w ++ r, fo_mk m i, false, if fo_en P 1 i = true then l ++ [(i, w)] else l) sn' x' I2 (by omega) (by exact Nat.le_of_lt_succ (Nat.lt_of_lt_of_le hdec hm)) hinv.1 rfl q1 q2 (mo_P_i q4 hp1) (mm_R_mono q5 (q4 _ _ (by omega) (by omega) (by omega)) hm1) q3
        exact ⟨I3, e3, m3, is_trans K1 (is_trans q4 K3)⟩
      have hdjc : ∀ L, dj P 0 ((l ++ [(i, w)]).map (fun e => e.1) ++ L) = dj P sn (i :: L) := fun L => by
        rw [List.map_append, List.append_assoc]
        exact hdj _
      by_cases hk1 : P.2.1 i < 2
      · -- a letter
        have hnx : fo_nx P 0 1 i w = [] := by
          unfold fo_nx
          rw [if_neg (by omega), if_neg (by omega), if_neg (by omega), if_neg (by omega), if_neg (by omega)]
        have hen : fo_en P 1 i = true := by
          unfold fo_en
          rw [if_neg (by omega)]; exact decide_eq_true (Or.inl hk1)
        rw [if_neg (by rw [li_1, nI_ltI (by omega) (by omega)]; omega)]
        have hmlt : mkm P i < 256 := by
          unfold mkm
          split
          · omega
          · exact p2_lt _ (w0 (by omega))
        have ht35 : ((if nI (P.2.1 i) = 1 then some 255 else some ((1 : Int32) <<< ((nI (P.2.2.1 i)) &&& 31))) : Option Int32) = some (nI (mkm P i)) := by
          unfold mkm
          by_cases h1 : P.2.1 i = 1
          · rw [if_pos (by rw [h1]; rfl), if_pos h1]; rfl
          · rw [if_neg (by rw [li_1, nI_eq (by omega) (by omega)]; exact h1), if_neg h1, nI_sh _ (w0 (by omega))]
        rw [ht35, ev_b, nI_and hsn hmlt]
        have hand := Nat.and_lt_two_pow sn (show mkm P i < 2 ^ 8 by omega)
        by_cases hz : sn &&& mkm P i = 0
        · rw [if_pos (by rw [hz]; rfl)]
          have hn2 : ∀ c : Nat, c ≠ P.2.1 i → c < 100 → ¬ nI (P.2.1 i) = nI c := fun c h1 h2 => by rw [nI_eq (by omega) (by omega)]; omega
          have q2 : ¬ nI (P.2.1 i) = 2 := hn2 2 (by omega) (by omega)
          have q3 : ¬ nI (P.2.1 i) = 3 := hn2 3 (by omega) (by omega)
          have q4 : ¬ nI (P.2.1 i) = 4 := hn2 4 (by omega) (by omega)
          have q5 : ¬ nI (P.2.1 i) = 5 := hn2 5 (by omega) (by omega)
          have q6 : ¬ nI (P.2.1 i) = 6 := hn2 6 (by omega) (by omega)
          simp only [if_neg q2, if_neg q3, if_neg q4, if_neg q5, if_neg q6, ev_b]
          rw [if_pos trivial, nI_or hsn hmlt]
          obtain ⟨x', I2, e2, z1, z2, z3⟩ := e_is_pop (J := J) (n := n) (N := N) (sn := nI (sn ||| mkm P i)) hl (show (r.map (fun e => e.1)).length < 600 by omega) x11 x21
          simp only [ev_ob (ms_o hl), ev_b] at e2
          simp only [ev_ob (ms_o hl), ev_b]
          rw [e2]
          refine hfin x' I2 (sn ||| mkm P i) (or256 hsn hmlt) (fun L => ?_) (by rw [hnx]; exact z1) z2 z3
          rw [hen, if_pos rfl, hdjc, dj_c, if_pos hk1, if_pos hz]
        · rw [if_neg (by rw [li_0, nI_eq (by omega) (by omega)]; exact hz)]
          refine ⟨I1, ?_, ⟨_, hm1⟩, K1⟩
          obtain ⟨L, hL⟩ := fo_lapp (P := P) (pl := 0) (ru := 1) k (fo_nx P 0 1 i w ++ r, fo_mk m i, false, if fo_en P 1 i = true then l ++ [(i, w)] else l)
          rw [hL, hen, if_pos rfl]
          have : dj P 0 ((l ++ [(i, w)]).map (fun e => e.1) ++ L) = false := by rw [hdjc, dj_c, if_pos hk1, if_neg hz]
          rw [this, Bool.and_false]
          rfl
      · rw [if_pos (by rw [li_1, nI_ltI (by omega) (by omega)]; omega)]
        have hdk : ∀ L, dj P sn (i :: L) = dj P sn L := fun L => by rw [dj_c, if_neg hk1]
        have hq2 : ∀ L, dj P 0 ((if fo_en P 1 i = true then l ++ [(i, w)] else l).map (fun e => e.1) ++ L) = dj P sn L := fun L => by
          split
          · rw [hdjc, hdk]
          · exact hdj L
        have hn2 : ∀ c : Nat, c ≠ P.2.1 i → c < 100 → ¬ nI (P.2.1 i) = nI c := fun c h1 h2 => by rw [nI_eq (by omega) (by omega)]; omega
        by_cases h2 : P.2.1 i = 2
        · obtain ⟨w21, w22⟩ := w2 h2
          have xr := ev_ix (N := 600) (k := (r.map (fun e : Nat × Int64 => e.1)).length) (by omega) (by omega)
          have hx1 : ¬ nI (P.2.2.1 i) = -1 := by rw [ev_n1 (by omega)]; exact not_false
          have xx : (hv_u (hv_u I1 (g + 10) (r.map (fun e : Nat × Int64 => e.1)).length (nI (P.2.2.2 i))) g 18 (nI ((r.map (fun e : Nat × Int64 => e.1)).length + 1))) (g + 4) i = nI (P.2.2.1 i) := by
            rw [ev_ua (by omega), ev_ua (by omega)]; exact (hp1.2 i hi).2.1
          have p2 : nI (P.2.1 i) = 2 := by rw [h2]; rfl
          simp only [if_pos p2, ev_b, xr, x11, ev_ua (show g ≠ g + 10 by omega), nI_1, ev_ob (ms_o hl), ev_R, ev_I, mr_8 hl, ev_ar0 (ms_4 hl), xi, xx]
          rw [if_neg hx1]
          refine hfin (nI (P.2.2.1 i)) _ sn hsn hq2 ?_ ?_ (fun k => by rw [ev_ua (by omega), ev_ua (by omega)])
          · have : fo_nx P 0 1 i w = [(P.2.2.1 i, w), (P.2.2.2 i, w)] := by simp [fo_nx, h2]
            rw [this]
            refine ⟨rfl, by rw [ev_us]; simp, ?_, wz_mono _ (fun k hk => ?_) x21⟩
            · rw [ev_ua (by omega)]
              show hv_u I1 (g + 10) (r.map (fun e => e.1)).length (nI (P.2.2.2 i)) (g + 10) (r.map (fun e => e.1)).length = _
              rw [ev_us]
            · rw [ev_ua (by omega), ev_uk (by have hk : k < (r.map (fun e : Nat × Int64 => e.1)).length := hk; omega)]
          · intro a k q1 q2 q3
            by_cases ha : a = g
            · rw [ev_uk (by omega), ev_ua q3]
            · rw [ev_ua ha, ev_ua q3]
        · have q2 : ¬ nI (P.2.1 i) = 2 := hn2 2 (Ne.symm h2) (by omega)
          simp only [if_neg q2, ev_b]
          have hsimple : ∀ y, y < 49 → fo_nx P 0 1 i w = [(y, w)] ∨ (∃ w', fo_nx P 0 1 i w = [(y, w')]) → is_R I1 g (nI y) ((fo_nx P 0 1 i w ++ r).map (fun e => e.1)) := fun y hy hh => by
            have : ∃ w', fo_nx P 0 1 i w = [(y, w')] := hh.elim (fun h => ⟨w, h⟩) id
            obtain ⟨w', hw'⟩ := this
            rw [hw']
            exact ⟨rfl, x11, x21⟩
          have hni : P.2.1 i ≠ 7 → i + 1 < 49 := fun hh => by
            have : ¬ i + 1 = P.1 := fun e => hh (wf.2 e)
            omega
          by_cases h3 : P.2.1 i = 3
          · have hy := w3 h3
            have p3 : nI (P.2.1 i) = 3 := by rw [h3]; rfl
            simp only [if_pos p3, ev_ob (ms_o hl), ev_b, ev_R, mr_8 hl, ev_ar0 (ms_4 hl), xi, ev_I, (hp1.2 i hi).2.1]
            rw [if_neg (by rw [ev_n1 (by omega)]; exact not_false)]
            exact hfin _ I1 sn hsn hq2 (hsimple _ (by omega) (Or.inl (by simp [fo_nx, h3]))) is_refl (fun _ => rfl)
          · have q3 : ¬ nI (P.2.1 i) = 3 := hn2 3 (Ne.symm h3) (by omega)
            simp only [if_neg q3]
            by_cases h456 : P.2.1 i = 4 ∨ P.2.1 i = 5 ∨ P.2.1 i = 6
            · have hy := hni (by omega)
              have e0 : ((if nI (P.2.1 i) = 4 then some (nI i + 1) else if nI (P.2.1 i) = 5 then some (nI i + 1) else if nI (P.2.1 i) = 6 then some (nI i + 1) else some (-1)) : Option Int32) = some (nI (i + 1)) := by
                rw [nI_1]
                rcases h456 with h | h | h
                · rw [if_pos (by rw [h]; rfl)]
                · rw [if_neg (by rw [h]; decide), if_pos (by rw [h]; rfl)]
                · rw [if_neg (by rw [h]; decide), if_neg (by rw [h]; decide), if_pos (by rw [h]; rfl)]
              rw [e0, ev_b, if_neg (by rw [ev_n1 (by omega)]; exact not_false)]
              refine hfin _ I1 sn hsn hq2 (hsimple _ hy (Or.inr ?_)) is_refl (fun _ => rfl)
              rcases h456 with h | h | h
              · exact ⟨sl_w w (P.2.2.1 i) 0, by simp [fo_nx, h]⟩
              · exact ⟨w, by simp [fo_nx, h]⟩
              · exact ⟨w, by simp [fo_nx, h]⟩
            · have h7 : P.2.1 i = 7 := by omega
              have e0 : ((if nI (P.2.1 i) = 4 then some (nI i + 1) else if nI (P.2.1 i) = 5 then some (nI i + 1) else if nI (P.2.1 i) = 6 then some (nI i + 1) else some (-1)) : Option Int32) = some (-1) := by
                rw [if_neg (by rw [h7]; decide), if_neg (by rw [h7]; decide), if_neg (by rw [h7]; decide)]
              rw [e0, ev_b, if_pos rfl]
              obtain ⟨x', I2, e2, z1, z2, z3⟩ := e_is_pop (J := J) (n := n) (N := N) (sn := nI sn) hl (show (r.map (fun e => e.1)).length < 600 by omega) x11 x21
              simp only [ev_ob (ms_o hl), ev_b] at e2
              simp only [ev_ob (ms_o hl), ev_b]
              rw [e2]
              have hnx : fo_nx P 0 1 i w = [] := by simp [fo_nx, h7]
              exact hfin x' I2 sn hsn hq2 (by rw [hnx]; exact z1) z2 z3
theorem e_Mo_isSingle {i S : Nat} (hl : ly_M sh R g) (hW : pg_W P) (hi : i < P.1) (hS : S + 1 < 2 ^ 31) (hp : mo_P I g P) (hm : ∃ m, mm_R I g S m) :
    ∃ I', f_Mo_isSingle g (nI i) (sh, I, J, R, n) = some (bI (pn P i), (sh, I', J, R, n)) ∧ (∃ m, mm_R I' g (S + 1) m) ∧ (∀ a k, (a ≠ g ∨ (k ≠ 16 ∧ k ≠ 18)) → a ≠ g + 9 → a ≠ g + 10 → I' a k = I a k) := by
  obtain ⟨m, hm⟩ := hm
  have hm1 : mm_R (hv_u (hv_u I g 16 (nI (S + 1))) g 18 0) g (S + 1) (fun _ => false) := mm_R_mono (fun j => ev_ua (by omega)) (ev_uk (by omega)) (mm_R_inc hS hm)
  have K0 : ∀ a k, (a ≠ g ∨ (k ≠ 16 ∧ k ≠ 18)) → (hv_u (hv_u I g 16 (nI (S + 1))) g 18 0) a k = I a k := fun a k h => by
    by_cases ha : a = g
    · rw [ev_uk (by omega), ev_uk (by omega)]
    · rw [ev_ua ha, ev_ua ha]
  have h18 : (hv_u (hv_u I g 16 (nI (S + 1))) g 18 0) g 18 = nI 0 := by rw [ev_us]; rfl
  unfold f_Mo_isSingle
  simp only [ev_ob (ms_o hl), ev_b, ev_I, ev_sI, hm.2.1, nI_1]
  generalize hv_u (hv_u I g 16 (nI (S + 1))) g 18 0 = I0 at hm1 K0 h18 ⊢
  have hp0 : mo_P I0 g P := by
    obtain ⟨p0, p1⟩ := hp
    exact ⟨(K0 _ _ (by omega)).trans p0, fun i hi => ⟨(K0 _ _ (by omega)).trans (p1 i hi).1, (K0 _ _ (by omega)).trans (p1 i hi).2.1, (K0 _ _ (by omega)).trans (p1 i hi).2.2⟩⟩
  obtain ⟨j1, j2⟩ := fo_JI (w := 0) hW (fo_J0 (t := false) hW) hi
  obtain ⟨I1, e1, m1, K1⟩ := e_Mo_isloop (J := J) (n := n) hl hW fo_N.1 100000 ([(i, 0)], fun _ => false, false, []) 0 (nI i) I0 (by rw [fo_N.2]; omega) (by rw [fo_N.2]; exact j2) j1 rfl (by omega) (fun L => rfl) hp0 hm1 ⟨rfl, h18, trivial⟩
  have e1' : ((L_Mo_isSingle_19 100000 (some g) 0 (nI i) (sh, I0, J, R, n)).bind fun e57r => e57r.elim (fun e57 => some ((1 : Int32), e57)) (fun w => some w)) = _ := e1
  rw [e1']
  exact ⟨I1, rfl, m1, fun a k q1 q2 q3 => (K1 a k (by omega) q2 q3).trans (K0 a k q1)⟩
/-- from i on, k more, so far v -/
noncomputable def pg2 (P : pg_P) : Nat → Nat → Bool → Bool
  | 0, _, v => v
  | k + 1, i, v => pg2 P k (i + 1) (if P.2.1 i < 2 then v && pn P (i + 1) else v)
theorem e_Mo_121 (hl : ly_M sh R g) (hW : pg_W P) :
    ∀ (k N i S : Nat) (v : Bool) (I : Nat → Nat → Int32), k < N → i + k = P.1 → S + k < 2 ^ 31 → mo_P I g P → (∃ m, mm_R I g S m) → I g 15 = bI v →
    ∃ I' S', L_Mo_compile_121 N (some g) (nI i) (sh, I, J, R, n) = some (sh, I', J, R, n) ∧ I' g 15 = bI (pg2 P k i v) ∧ S' ≤ S + k ∧ (∃ m, mm_R I' g S' m) ∧ (∀ a k, (a ≠ g ∨ (k ≠ 15 ∧ k ≠ 16 ∧ k ≠ 18)) → a ≠ g + 9 → a ≠ g + 10 → I' a k = I a k)
  | k, 0, _, _, _, _, h, _, _, _, _, _ => by omega
  | 0, N + 1, i, S, v, I, hN, hk, hS, hp, hm, h15 => by
    have h49 := hW.2.1
    rw [L_Mo_compile_121]
    simp only [ev_ob (ms_o hl), ev_b, ev_I, hp.1]
    rw [if_pos (by rw [nI_leI (by omega) (by omega)]; omega)]
    exact ⟨I, S, rfl, h15, Nat.le_refl _, hm, fun _ _ _ _ _ => rfl⟩
  | k + 1, N + 1, i, S, v, I, hN, hk, hS, hp, hm, h15 => by
    have h49 := hW.2.1
    have hi : i < P.1 := by omega
    have xi := ev_ix (N := 64) (k := i) (by omega) (by omega)
    obtain ⟨w7, wf, w2, w3, w4, w0⟩ := hW.2.2.1 i hi
    rw [L_Mo_compile_121]
    simp only [ev_ob (ms_o hl), ev_b, ev_I, hp.1]
    rw [if_neg (by rw [nI_leI (by omega) (by omega)]; omega)]
    simp only [ev_R, mr_7 hl, ev_ar0 (ms_3 hl), ev_b, xi, (hp.2 i hi).1, h15]
    have hgo : ∃ I1 S1, ((if 1 < nI (P.2.1 i) then some (sh, I, J, R, n) else ((if bI v = 0 then some (0, (sh, I, J, R, n)) else (f_Mo_isSingle g (nI i + 1) (sh, I, J, R, n)).bind fun p38 => if p38.1 = 0 then some (0, p38.2) else some (1, p38.2)) : Option (Int32 × hv_S)).bind fun t39 => (x_ob t39.2 11 (some g)).bind fun a40 => (x_z t39.1).bind fun z41 => (some (hv_setI t39.2 a40 15 z41)).bind fun s42 => some s42) : Option hv_S) = some (sh, I1, J, R, n) ∧ I1 g 15 = bI (if P.2.1 i < 2 then v && pn P (i + 1) else v) ∧ S1 ≤ S + 1 ∧ (∃ m, mm_R I1 g S1 m) ∧ (∀ a k, (a ≠ g ∨ (k ≠ 15 ∧ k ≠ 16 ∧ k ≠ 18)) → a ≠ g + 9 → a ≠ g + 10 → I1 a k = I a k) := by
      by_cases hk2 : P.2.1 i < 2
      · rw [if_neg (by rw [li_1, nI_ltI (by omega) (by omega)]; omega), if_pos hk2]
        cases v with
        | false =>
          rw [if_pos (show bI false = 0 by decide)]
          simp only [ev_b, ev_ob (ms_o hl), ev_z0, ev_sI]
          obtain ⟨m, hm⟩ := hm
          refine ⟨_, S, rfl, ev_us, by omega, ⟨m, mm_R_mono (fun j => ev_ua (by omega)) (ev_uk (by omega)) hm⟩, fun a k q1 q2 q3 => ?_⟩
          by_cases ha : a = g
          · rw [ev_uk (by omega)]
          · rw [ev_ua ha]
        | true =>
          have hi1 : i + 1 < P.1 := by
            have : ¬ i + 1 = P.1 := fun e => by have := wf.2 e; omega
            omega
          rw [if_neg (show ¬ bI true = 0 by decide), nI_1, Bool.true_and]
          obtain ⟨I1, e1, ⟨m1, hm1⟩, K1⟩ := e_Mo_isSingle (J := J) (n := n) hl hW hi1 (show S + 1 < 2 ^ 31 by omega) hp hm
          rw [e1, ev_b]
          have e2 : ((if bI (pn P (i + 1)) = 0 then some (0, (sh, I1, J, R, n)) else some (1, (sh, I1, J, R, n))) : Option (Int32 × hv_S)) = some (bI (pn P (i + 1)), (sh, I1, J, R, n)) := by
            cases pn P (i + 1) <;> rfl
          rw [e2]
          simp only [ev_b, ev_ob (ms_o hl), x_zb, ev_sI]
          refine ⟨_, S + 1, rfl, ev_us, by omega, ⟨m1, mm_R_mono (fun j => ev_ua (by omega)) (ev_uk (by omega)) hm1⟩, fun a k q1 q2 q3 => ?_⟩
          by_cases ha : a = g
          · rw [ev_uk (by omega)]; exact K1 _ _ (by omega) q2 q3
          · rw [ev_ua ha]; exact K1 _ _ (by omega) q2 q3
      · rw [if_pos (by rw [li_1, nI_ltI (by omega) (by omega)]; omega), if_neg hk2]
        exact ⟨I, S, rfl, h15, by omega, hm, fun _ _ _ _ _ => rfl⟩
    obtain ⟨I1, S1, e1, h1, s1, m1, K1⟩ := hgo
    simp only [ev_b] at e1
    rw [e1, ev_b, nI_1]
    have hp1 : mo_P I1 g P := by
      obtain ⟨p0, p1⟩ := hp
      exact ⟨(K1 _ _ (by omega) (by omega) (by omega)).trans p0, fun i hi => ⟨(K1 _ _ (by omega) (by omega) (by omega)).trans (p1 i hi).1, (K1 _ _ (by omega) (by omega) (by omega)).trans (p1 i hi).2.1, (K1 _ _ (by omega) (by omega) (by omega)).trans (p1 i hi).2.2⟩⟩
    obtain ⟨I2, S2, e2, h2, s2, m2, K2⟩ := e_Mo_121 hl hW k N (i + 1) S1 _ I1 (by omega) (by omega) (by omega) hp1 m1 h1
    exact ⟨I2, S2, e2, h2, by omega, m2, fun a k q1 q2 q3 => (K2 a k q1 q2 q3).trans (K1 a k q1 q2 q3)⟩
end MP
theorem pg2_f {P : pg_P} : ∀ (k i : Nat), pg2 P k i false = false
  | 0, _ => rfl
  | k + 1, i => by
    unfold pg2
    rw [show (if P.2.1 i < 2 then false && pn P (i + 1) else false) = false from by split <;> rfl]
    exact pg2_f k (i + 1)
theorem pg2_pf {P : pg_P} : ∀ (k i : Nat) (v : Bool), pg2 P k i v = (v && pf P k (i + 1))
  | 0, i, v => by unfold pg2 pf; simp
  | k + 1, i, v => by
    unfold pg2 pf
    rw [pg2_pf k (i + 1), Nat.add_sub_cancel]
    by_cases h : P.2.1 i < 2
    · rw [if_pos h, if_pos (Or.inr h), Bool.and_assoc]
    · rw [if_neg h, if_neg (by omega), Bool.true_and]
theorem pf_last {P : pg_P} : ∀ (k i : Nat), (1 ≤ i) → (¬ P.2.1 (i + k - 1) < 2) → pf P (k + 1) i = pf P k i
  | 0, i, hi, h => by
    unfold pf
    rw [if_neg (by rw [Nat.add_zero] at h; omega)]
    rfl
  | k + 1, i, hi, h => by
    have ih := pf_last k (i + 1) (by omega) (by rw [show i + 1 + k - 1 = i + (k + 1) - 1 from by omega]; exact h)
    have e1 : ∀ k, pf P (k + 1) i = ((if i = 0 ∨ P.2.1 (i - 1) < 2 then pn P i else true) && pf P k (i + 1)) := fun _ => rfl
    rw [e1, e1, ih]
/-- both say the same -/
theorem sf_eq {P : pg_P} (hW : pg_W P) : sf P = pg2 P P.1 0 (decide (P.2.1 0 = 5) && pn P 0) := by
  rw [pg2_pf]
  unfold sf
  obtain ⟨k, hk⟩ : ∃ k, P.1 = k + 1 := ⟨P.1 - 1, by have := hW.1; omega⟩
  have h7 : ¬ P.2.1 (0 + 1 + k - 1) < 2 := by
    have := (hW.2.2.1 k (by omega)).2.1.2 (by omega)
    rw [show 0 + 1 + k - 1 = k from by omega]
    omega
  rw [hk, pf_last k (0 + 1) (by omega) h7]
  have e1 : pf P (k + 1) 0 = ((if 0 = 0 ∨ P.2.1 (0 - 1) < 2 then pn P 0 else true) && pf P k (0 + 1)) := rfl
  rw [e1, if_pos (Or.inl rfl), Bool.and_assoc]
