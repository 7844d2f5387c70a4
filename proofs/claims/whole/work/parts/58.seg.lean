/-! ROWS ARE MADE OF SEGMENTS, one for each beginning -/
section SG
variable {P : pg_P} {T : tx_T}
theorem ro_nx_pl {a b ru i : Nat} (h : a = 0 ↔ b = 0) : ro_nx P a ru i = ro_nx P b ru i := by
  unfold ro_nx fo_nx
  split
  · rfl
  · split
    · rfl
    · split
      · simp only [List.map_cons, List.map_nil]
      · split
        · by_cases ha : a = 0
          · rw [if_pos ha, if_pos (h.mp ha)]
          · rw [if_neg ha, if_neg (fun e => ha (h.mpr e))]
        · rfl
theorem ro_1_pl {a b ru : Nat} (h : a = 0 ↔ b = 0) : ∀ s : ro_S, ro_1 P a ru s = ro_1 P b ru s
  | ([], _, _) => rfl
  | (i :: r, m, l) => by rw [ro_1c, ro_1c, ro_nx_pl h]
theorem ro_n_pl {a b ru : Nat} (h : a = 0 ↔ b = 0) : ∀ (k : Nat) (s : ro_S), ro_n P a ru k s = ro_n P b ru k s
  | 0, _ => rfl
  | k + 1, s => by unfold ro_n; rw [ro_1_pl h, ro_n_pl h k]
theorem ro_F_pl {a b ru i : Nat} {s : ro_T} (h : a = 0 ↔ b = 0) : ro_F P a ru i s = ro_F P b ru i s := by unfold ro_F; rw [ro_n_pl h]
theorem ro_g_pl {a b ru : Nat} {f : Nat → Bool} (h : a = 0 ↔ b = 0) : ∀ (r : List Nat) (s : ro_T), ro_g P a ru f r s = ro_g P b ru f r s
  | [], _ => rfl
  | e :: r, s => by unfold ro_g; rw [ro_F_pl h, ro_g_pl h r]
theorem ro_g_app {pl ru : Nat} {f : Nat → Bool} : ∀ (r r' : List Nat) (s : ro_T), ro_g P pl ru f (r ++ r') s = ro_g P pl ru f r' (ro_g P pl ru f r s)
  | [], _, _ => rfl
  | e :: r, r', s => by
    show ro_g P pl ru f (e :: (r ++ r')) s = _
    have e1 : ∀ x t, ro_g P pl ru f (e :: x) t = ro_g P pl ru f x (if f e then ro_F P pl ru (e + 1) t else t) := fun _ _ => rfl
    rw [e1, e1, ro_g_app r r']
theorem ro_g_fil {pl ru : Nat} {f q : Nat → Bool} (h : ∀ e, f e = true → q e = true) : ∀ (r : List Nat) (s : ro_T), ro_g P pl ru f (r.filter q) s = ro_g P pl ru f r s
  | [], _ => rfl
  | e :: r, s => by
    rw [List.filter_cons]
    by_cases hq : q e = true
    · rw [if_pos hq]
      unfold ro_g
      rw [ro_g_fil h r]
    · rw [if_neg hq, ro_g_fil h r]
      conv => rhs; unfold ro_g
      rw [if_neg (fun e => hq (h _ e))]
theorem tr_fil {q : Nat → Bool} : ∀ (l : List Nat), (∀ e, e ∈ l → P.2.1 e = 7 → q e = true) → tr P (l.filter q) = (tr P l).filter q
  | [], _ => rfl
  | i :: r, h => by
    have ih := tr_fil r (fun e he => h e (List.mem_cons_of_mem _ he))
    rw [List.filter_cons, tr_c]
    by_cases hk : P.2.1 i = 7
    · have := h i List.mem_cons_self hk
      rw [if_pos this, tr_c, if_pos hk, if_pos hk, List.filter_cons, if_pos this]; rfl
    · rw [if_neg hk, List.filter_cons]
      by_cases hq : q i = true
      · rw [if_pos hq, if_pos hq, tr_c, if_neg hk, ih]
      · rw [if_neg hq, if_neg hq, ih]
theorem hf_mem {l : List Nat} : hf P l = true ↔ ∃ e, e ∈ l ∧ P.2.1 e = 7 := by
  unfold hf
  rw [List.any_eq_true]
  constructor
  · rintro ⟨e, h1, h2⟩; exact ⟨e, h1, by simpa using h2⟩
  · rintro ⟨e, h1, h2⟩; exact ⟨e, h1, by simpa using h2⟩
theorem hf_no {l : List Nat} (h : hf P l = false) {e : Nat} (he : e ∈ l) : P.2.1 e ≠ 7 := fun h7 => by
  rw [hf_mem.mpr ⟨e, he, h7⟩] at h; cases h
noncomputable def rw0 (P : pg_P) : au_S := (tr P (ro_F P 0 2 0 (fun _ => false, [])).2, true, fun _ => none)
noncomputable def rwn (P : pg_P) (c : Nat) (s : au_S) : au_S := (tr P (au_r2 P c s).2, au_o P s, fun _ => none)
noncomputable def rws (P : pg_P) (T : tx_T) : Nat → au_S
  | 0 => rw0 P
  | p + 1 => rwn P (T.2 p) (rws P T p)
/-- the run from s alone, k letters on -/
noncomputable def l2 (P : pg_P) (T : tx_T) (s : Nat) : Nat → List Nat
  | 0 => (ro_F P s 2 0 (fun _ => false, [])).2
  | k + 1 => (ro_g P (s + k + 1) 2 (tkl P (T.2 (s + k))) (tr P (l2 P T s k)) (fun _ => false, [])).2
theorem rwsI (hW : pg_W P) : ∀ p, au_sI P 0 (rws P T p)
  | 0 => by
    have h := ro_FJ (pl := 0) (ru := 2) hW (ro_J0 hW) hW.1
    exact ⟨Nat.le_trans (tr_len _) (by have := h.1; omega), fun e he => h.2 e (tr_mem _ e he), tr_tr _, fun c j h => by cases h⟩
  | p + 1 => by
    have h := au_rJ (c := T.2 p) hW (rwsI hW p)
    exact ⟨Nat.le_trans (tr_len _) (by have := h.1; omega), fun e he => h.2 e (tr_mem _ e he), tr_tr _, fun c j h => by cases h⟩
theorem l2J (hW : pg_W P) (s : Nat) : ∀ k, ∃ m, ro_J P (m, l2 P T s k)
  | 0 => ⟨_, ro_FJ (pl := s) (ru := 2) hW (ro_J0 hW) hW.1⟩
  | k + 1 => by
    obtain ⟨m, h⟩ := l2J hW s k
    exact ⟨_, ro_gJ (pl := s + k + 1) (ru := 2) hW (fun e he => tkl7 he) (tr P (l2 P T s k)) _ (fun e he => h.2 e (tr_mem _ e he)) (ro_J0 hW)⟩
/-- sources -/
def sr (P : pg_P) (c : Nat) (l : List Nat) : List Nat := (l.filter (tkl P c)).map (fun e => e + 1)
theorem sr_fil {c : Nat} {M : Nat → Bool} {a : List Nat} (h : ∀ e, e ∈ a → tkl P c e = true → M (e + 1) = true) : ∀ (L : List Nat), (sr P c (L.filter (fun e => !decide (e ∈ a)))).filter (fun j => !M j) = (sr P c L).filter (fun j => !M j)
  | [] => rfl
  | i :: L => by
    have ih := sr_fil h L
    unfold sr at ih ⊢
    rw [List.filter_cons]
    by_cases hi : i ∈ a
    · rw [if_neg (by simp [hi]), ih, List.filter_cons]
      by_cases ht : tkl P c i = true
      · rw [if_pos ht, List.map_cons, List.filter_cons, if_neg (by simp [h i hi ht])]
      · rw [if_neg ht]
    · rw [if_pos (by simp [hi]), List.filter_cons, List.filter_cons]
      by_cases ht : tkl P c i = true
      · rw [if_pos ht, if_pos ht, List.map_cons, List.map_cons, List.filter_cons, List.filter_cons, ih]
      · rw [if_neg ht, if_neg ht, ih]
theorem sr_mem {c e : Nat} {l : List Nat} (he : e ∈ l) (ht : tkl P c e = true) : e + 1 ∈ sr P c l := by
  unfold sr
  exact List.mem_map.mpr ⟨e, List.mem_filter.mpr ⟨he, ht⟩, rfl⟩
def Iv (P : pg_P) (T : tx_T) (s k : Nat) (a b g : List Nat) : Prop := (rws P T (s + k)).1 = a ++ b ++ g ∧ hf P a = false ∧ b = (tr P (l2 P T s k)).filter (fun e => !decide (e ∈ a))
/-- entries found under marks M of a closed search with list a' are those not in a' -/
theorem fil_M {pl ru : Nat} {st l a' : List Nat} {M m' : Nat → Bool} {st0 : List Nat} (hA : DF P pl ru st0 (fun _ => false) M a') (hB : DF P pl ru st (fun _ => false) m' l) : l.filter (fun j => !M j) = l.filter (fun e => !decide (e ∈ a')) := by
  apply List.filter_congr
  intro e he
  have h1 := (DF_mem hB e).mp he
  have h2 := DF_mem hA e
  cases hm : M e with
  | true => rw [decide_eq_true (h2.mpr ⟨hm, rfl, h1.2.2⟩)]
  | false => rw [decide_eq_false (fun h => by rw [(h2.mp h).1] at hm; cases hm)]
theorem Iv_cut {a b g L : List Nat} (ha : hf P a = false) (hb : b = L.filter (fun e => !decide (e ∈ a))) : ∃ g', tr P (a ++ b ++ g) = a ++ (tr P L).filter (fun e => !decide (e ∈ a)) ++ g' ∧ (∀ e, e ∈ b → e ∈ tr P (b ++ g) → e ∈ (tr P L).filter (fun e => !decide (e ∈ a))) := by
  have e1 : tr P b = (tr P L).filter (fun e => !decide (e ∈ a)) := by
    rw [hb]
    exact tr_fil L (fun e _ h7 => by
      have : ¬ e ∈ a := fun h => hf_no ha h h7
      simp [this])
  rw [List.append_assoc, tr_app2 a _ ha, ← e1]
  by_cases hfb : hf P b = true
  · exact ⟨[], by rw [tr_app b g hfb, List.append_nil], fun e _ h => by rw [tr_app b g hfb] at h; exact h⟩
  · have hfb' : hf P b = false := by simpa using hfb
    refine ⟨tr P g, by rw [tr_app2 b g hfb', tr_nf b hfb', List.append_assoc], fun e h _ => by rw [tr_nf b hfb']; exact h⟩
theorem Iv_step {s k : Nat} {a b g : List Nat} (hW : pg_W P) (h : Iv P T s k a b g) :
    ∃ g1 b1, (au_r2 P (T.2 (s + k)) (rws P T (s + k))).2 = (ro_g P 1 2 (tkl P (T.2 (s + k))) a (fun _ => false, [])).2 ++ b1 ++ g1 ∧ (ro_g P 1 2 (tkl P (T.2 (s + k))) b (ro_g P 1 2 (tkl P (T.2 (s + k))) a (fun _ => false, []))).2 = (ro_g P 1 2 (tkl P (T.2 (s + k))) a (fun _ => false, [])).2 ++ b1 ∧ b1 = (l2 P T s (k + 1)).filter (fun e => !decide (e ∈ (ro_g P 1 2 (tkl P (T.2 (s + k))) a (fun _ => false, [])).2)) ∧ (hf P (ro_g P 1 2 (tkl P (T.2 (s + k))) a (fun _ => false, [])).2 = false → ∃ g', Iv P T s (k + 1) (ro_g P 1 2 (tkl P (T.2 (s + k))) a (fun _ => false, [])).2 ((tr P (l2 P T s (k + 1))).filter (fun e => !decide (e ∈ (ro_g P 1 2 (tkl P (T.2 (s + k))) a (fun _ => false, [])).2))) g' ∧ ∀ e, e ∈ b1 → e ∈ (rws P T (s + k + 1)).1 → e ∉ (ro_g P 1 2 (tkl P (T.2 (s + k))) a (fun _ => false, [])).2 → e ∈ (tr P (l2 P T s (k + 1))).filter (fun e => !decide (e ∈ (ro_g P 1 2 (tkl P (T.2 (s + k))) a (fun _ => false, [])).2))) := by
  obtain ⟨h1, h2, h3⟩ := h
  have hI := rwsI (T := T) hW (s + k)
  have hlt : ∀ e, e ∈ a ++ b ++ g → e < P.1 := fun e he => hI.2.1 e (by rw [h1]; exact he)
  generalize hc : tkl P (T.2 (s + k)) = f at *
  have hf7 : ∀ e, f e = true → P.2.1 e ≠ 7 := fun e he => by subst hc; exact tkl7 he
  obtain ⟨la, da, ea⟩ := DF_g (pl := 1) (ru := 2) hW hf7 a (fun _ => false, []) (fun e he => hlt e (by simp [he])) (ro_J0 hW)
  have Ja := ro_gJ (pl := 1) (ru := 2) hW hf7 a (fun _ => false, []) (fun e he => hlt e (by simp [he])) (ro_J0 hW)
  obtain ⟨lb, db, eb⟩ := DF_g (pl := 1) (ru := 2) hW hf7 b (ro_g P 1 2 f a (fun _ => false, [])) (fun e he => hlt e (by simp [he])) Ja
  have Jb := ro_gJ (pl := 1) (ru := 2) hW hf7 b (ro_g P 1 2 f a (fun _ => false, [])) (fun e he => hlt e (by simp [he])) Ja
  rw [List.nil_append] at ea
  subst ea
  -- the run from s
  obtain ⟨m2, hJ2⟩ := l2J (T := T) hW s k
  obtain ⟨ls, ds, es⟩ := DF_g (pl := 1) (ru := 2) hW hf7 (tr P (l2 P T s k)) (fun _ => false, []) (fun e he => hJ2.2 e (tr_mem _ e he)) (ro_J0 hW)
  have el2 : l2 P T s (k + 1) = ls := by
    show (ro_g P (s + k + 1) 2 (tkl P (T.2 (s + k))) (tr P (l2 P T s k)) (fun _ => false, [])).2 = ls
    rw [hc, ro_g_pl (b := 1) (by omega), es, List.nil_append]
  obtain ⟨c1, c2, -⟩ := DF_cl da cl_0
  have hsr : ((b.filter f).map (fun e => e + 1)).filter (fun j => !(ro_g P 1 2 f a (fun _ => false, [])).1 j) = (((tr P (l2 P T s k)).filter f).map (fun e => e + 1)).filter (fun j => !(ro_g P 1 2 f a (fun _ => false, [])).1 j) := by
    have := sr_fil (P := P) (c := T.2 (s + k)) (M := (ro_g P 1 2 f a (fun _ => false, [])).1) (a := a) (fun e he ht => c2 _ (List.mem_map.mpr ⟨e, List.mem_filter.mpr ⟨he, by rw [← hc]; exact ht⟩, rfl⟩)) (tr P (l2 P T s k))
    unfold sr at this
    rw [hc] at this
    rw [h3]
    exact this
  obtain ⟨k1, -⟩ := DF_key c1 ds db hsr
  rw [fil_M da ds, ← el2] at k1
  -- the whole row
  have er : ∃ g1, (au_r2 P (T.2 (s + k)) (rws P T (s + k))).2 = (ro_g P 1 2 f a (fun _ => false, [])).2 ++ lb ++ g1 := by
    have e0 : au_r P (T.2 (s + k)) (rws P T (s + k)) = ro_g P 1 2 f g (ro_g P 1 2 f b (ro_g P 1 2 f a (fun _ => false, []))) := by
      unfold au_r
      rw [h1, hc, ro_g_app, ro_g_app]
    obtain ⟨l', hl'⟩ := ro_gapp (P := P) (pl := 1) (ru := 2) (f := f) g (ro_g P 1 2 f b (ro_g P 1 2 f a (fun _ => false, []))).1 (ro_g P 1 2 f b (ro_g P 1 2 f a (fun _ => false, []))).2
    have hl'' : (ro_g P 1 2 f g (ro_g P 1 2 f b (ro_g P 1 2 f a (fun _ => false, [])))).2 = (ro_g P 1 2 f b (ro_g P 1 2 f a (fun _ => false, []))).2 ++ l' := hl'
    rw [eb] at hl''
    unfold au_r2
    split
    · rw [e0]
      have := ro_Fapp (P := P) (pl := 1) (ru := 2) (i := 0) (m := (ro_g P 1 2 f g (ro_g P 1 2 f b (ro_g P 1 2 f a (fun _ => false, [])))).1) (l := (ro_g P 1 2 f g (ro_g P 1 2 f b (ro_g P 1 2 f a (fun _ => false, [])))).2)
      have e2 := congrArg Prod.snd this
      refine ⟨l' ++ (ro_F P 1 2 0 ((ro_g P 1 2 f g (ro_g P 1 2 f b (ro_g P 1 2 f a (fun _ => false, [])))).1, [])).2, ?_⟩
      refine Eq.trans e2 ?_
      show _ ++ _ = _
      rw [hl'']
      simp only [List.append_assoc]
    · rw [e0]
      exact ⟨l', hl''⟩
  obtain ⟨g1, er⟩ := er
  refine ⟨g1, lb, er, eb, k1, fun hfa => ?_⟩
  obtain ⟨g', q1, q2⟩ := Iv_cut (P := P) (g := g1) hfa k1
  have hrow : (rws P T (s + k + 1)).1 = tr P ((ro_g P 1 2 f a (fun _ => false, [])).2 ++ lb ++ g1) := by
    show tr P (au_r2 P (T.2 (s + k)) (rws P T (s + k))).2 = _
    rw [er]
  refine ⟨g', ⟨by rw [show s + (k + 1) = s + k + 1 from rfl, hrow, q1], hfa, rfl⟩, fun e he1 he2 he3 => q2 e he1 ?_⟩
  rw [hrow, List.append_assoc, tr_app2 _ _ hfa] at he2
  exact (List.mem_append.mp he2).resolve_left he3
/-- whence an entry comes -/
theorem src_of {pl ru : Nat} {f : Nat → Bool} : ∀ (r : List Nat) (s : ro_T) (e : Nat), e ∈ (ro_g P pl ru f r s).2 → e ∉ s.2 → ∃ A e0 B, r = A ++ e0 :: B ∧ f e0 = true ∧ e ∈ (ro_F P pl ru (e0 + 1) ((ro_g P pl ru f A s).1, [])).2
  | [], s, e, h, hn => absurd h hn
  | e0 :: r, s, e, h, hn => by
    unfold ro_g at h
    by_cases hfe : f e0 = true
    · rw [if_pos hfe] at h
      by_cases he : e ∈ (ro_F P pl ru (e0 + 1) s).2
      · refine ⟨[], e0, r, rfl, hfe, ?_⟩
        have e1 : ro_F P pl ru (e0 + 1) s = ro_F P pl ru (e0 + 1) (s.1, s.2) := rfl
        rw [e1, ro_Fapp] at he
        exact (List.mem_append.mp he).resolve_left hn
      · obtain ⟨A, e1, B, q1, q2, q3⟩ := src_of r _ e h he
        refine ⟨e0 :: A, e1, B, by rw [q1]; rfl, q2, ?_⟩
        have : ro_g P pl ru f (e0 :: A) s = ro_g P pl ru f A (ro_F P pl ru (e0 + 1) s) := by
          conv => lhs; unfold ro_g
          rw [if_pos hfe]
        rw [this]; exact q3
    · rw [if_neg hfe] at h
      obtain ⟨A, e1, B, q1, q2, q3⟩ := src_of r s e h hn
      refine ⟨e0 :: A, e1, B, by rw [q1]; rfl, q2, ?_⟩
      have : ro_g P pl ru f (e0 :: A) s = ro_g P pl ru f A s := by
        conv => lhs; unfold ro_g
        rw [if_neg hfe]
      rw [this]; exact q3
theorem spl_eq {x : Nat} : ∀ (a b c d : List Nat), x ∉ a → x ∉ c → a ++ x :: b = c ++ x :: d → a = c ∧ b = d
  | [], b, [], d, _, _, h => by injection h with _ h; exact ⟨rfl, h⟩
  | [], b, y :: c, d, _, h2, h => by
    injection h with h _
    exact absurd (by rw [← h]; exact List.mem_cons_self) h2
  | y :: a, b, [], d, h1, _, h => by
    injection h with h _
    exact absurd (by rw [h]; exact List.mem_cons_self) h1
  | y :: a, b, z :: c, d, h1, h2, h => by
    injection h with h3 h4
    obtain ⟨q1, q2⟩ := spl_eq a b c d (fun h => h1 (List.mem_cons_of_mem _ h)) (fun h => h2 (List.mem_cons_of_mem _ h)) h4
    rw [h3, q1, q2]
    exact ⟨rfl, rfl⟩
theorem spl_first {x : Nat} : ∀ (l : List Nat), x ∈ l → ∃ a b, l = a ++ x :: b ∧ x ∉ a
  | y :: l, h => by
    by_cases e : x = y
    · subst e; exact ⟨[], l, rfl, fun h => by cases h⟩
    · obtain ⟨a, b, q1, q2⟩ := spl_first l ((List.mem_cons.mp h).resolve_left e)
      exact ⟨y :: a, b, by rw [q1]; rfl, fun h => (List.mem_cons.mp h).elim e q2⟩
/-- each entry of a row stands in a segment -/
theorem Iv_all (hW : pg_W P) : ∀ (p e : Nat), e ∈ (rws P T p).1 → ∃ s k a b g, s + k = p ∧ Iv P T s k a b g ∧ e ∈ b
  | 0, e, he => by
    refine ⟨0, 0, [], (rws P T 0).1, [], rfl, ⟨by simp, rfl, ?_⟩, he⟩
    show tr P (ro_F P 0 2 0 (fun _ => false, [])).2 = _
    simp [l2]
    exact (List.filter_eq_self.mpr (fun _ _ => rfl)).symm
  | p + 1, e, he => by
    have hI := rwsI (T := T) hW p
    have hJr : ro_J P (au_r P (T.2 p) (rws P T p)) := ro_gJ hW (fun e h => tkl7 h) _ _ hI.2.1 (ro_J0 hW)
    have het : e ∈ (au_r2 P (T.2 p) (rws P T p)).2 := tr_mem _ e he
    by_cases hin : e ∈ (au_r P (T.2 p) (rws P T p)).2
    · -- from an entry before
      obtain ⟨A, e0, B, q1, q2, q3⟩ := src_of _ _ e hin (fun h => by cases h)
      have he0 : e0 ∈ (rws P T p).1 := by rw [q1]; simp
      have hA : ∀ e', e' ∈ A → e' < P.1 := fun e' h => hI.2.1 e' (by rw [q1]; simp [h])
      have JA := ro_gJ (pl := 1) (ru := 2) hW (fun e (h : tkl P (T.2 p) e = true) => tkl7 h) A (fun _ => false, []) hA (ro_J0 hW)
      have he1 : e0 + 1 < P.1 := by
        have h7 := tkl7 q2
        have hlt := hI.2.1 e0 he0
        have := (hW.2.2.1 e0 hlt).2.1
        have : ¬ e0 + 1 = P.1 := fun q => h7 (this.2 q)
        omega
      have dA := DF_F (pl := 1) (ru := 2) hW JA he1
      have hme := (DF_mem dA e).mp q3
      have hnA : e0 ∉ A := fun h => by
        obtain ⟨la, da, -⟩ := DF_g (pl := 1) (ru := 2) hW (fun e (h : tkl P (T.2 p) e = true) => tkl7 h) A (fun _ => false, []) hA (ro_J0 hW)
        have hm := (DF_cl da cl_0).2.1 (e0 + 1) (List.mem_map.mpr ⟨e0, List.mem_filter.mpr ⟨h, q2⟩, rfl⟩)
        have d0 : DF P 1 2 [e0 + 1] (ro_g P 1 2 (tkl P (T.2 p)) A (fun _ => false, [])).1 (ro_g P 1 2 (tkl P (T.2 p)) A (fun _ => false, [])).1 [] := ⟨1, by
          show ro_1 P 1 2 ([e0 + 1], _, []) = _
          rw [ro_1c, if_pos hm]⟩
        have := (DF_fun dA d0).2
        rw [this] at q3
        cases q3
      obtain ⟨s, k, a, b, g, hsk, hIv, hb⟩ := Iv_all hW p e0 he0
      subst hsk
      obtain ⟨A1, B1, w1, w2⟩ := spl_first b hb
      have hna : e0 ∉ a := by
        have h3 := hIv.2.2
        rw [h3, List.mem_filter] at hb
        simpa using hb.2
      have hsplit : A ++ e0 :: B = (a ++ A1) ++ e0 :: (B1 ++ g) := by
        rw [← q1, hIv.1, w1]; simp
      obtain ⟨u1, -⟩ := spl_eq A B (a ++ A1) (B1 ++ g) hnA (fun h => (List.mem_append.mp h).elim hna w2) hsplit
      obtain ⟨g1, b1, r1, r2, r3, r4⟩ := Iv_step hW hIv
      rw [u1, ro_g_app] at q3 hme
      -- e is in b1 and not in the part of a
      have hne : e ∉ (ro_g P 1 2 (tkl P (T.2 (s + k))) a (fun _ => false, [])).2 := fun h => by
        have ha : ∀ e', e' ∈ a → e' < P.1 := fun e' h => hI.2.1 e' (by rw [hIv.1]; simp [h])
        obtain ⟨la, da, ea⟩ := DF_g (pl := 1) (ru := 2) hW (fun e (h : tkl P (T.2 (s + k)) e = true) => tkl7 h) a (fun _ => false, []) ha (ro_J0 hW)
        rw [ea, List.nil_append] at h
        have h1 := ((DF_mem da e).mp h).1
        have Ja := ro_gJ (pl := 1) (ru := 2) hW (fun e (h : tkl P (T.2 (s + k)) e = true) => tkl7 h) a (fun _ => false, []) ha (ro_J0 hW)
        obtain ⟨lA, dA1, -⟩ := DF_g (pl := 1) (ru := 2) hW (fun e (h : tkl P (T.2 (s + k)) e = true) => tkl7 h) A1 (ro_g P 1 2 (tkl P (T.2 (s + k))) a (fun _ => false, [])) (fun e' h => hA e' (by rw [u1]; simp [h])) Ja
        have h2 := (DF_cl dA1 (DF_cl da cl_0).1).2.2 e h1
        rw [h2] at hme
        cases hme.2.1
      have hb1 : e ∈ b1 := by
        have h1 : e ∈ (ro_g P 1 2 (tkl P (T.2 (s + k))) b (ro_g P 1 2 (tkl P (T.2 (s + k))) a (fun _ => false, []))).2 := by
          rw [w1, ro_g_app]
          have e3 : ro_g P 1 2 (tkl P (T.2 (s + k))) (e0 :: B1) (ro_g P 1 2 (tkl P (T.2 (s + k))) A1 (ro_g P 1 2 (tkl P (T.2 (s + k))) a (fun _ => false, []))) = ro_g P 1 2 (tkl P (T.2 (s + k))) B1 (ro_F P 1 2 (e0 + 1) (ro_g P 1 2 (tkl P (T.2 (s + k))) A1 (ro_g P 1 2 (tkl P (T.2 (s + k))) a (fun _ => false, [])))) := by
            conv => lhs; unfold ro_g
            rw [if_pos q2]
          rw [e3]
          generalize ro_g P 1 2 (tkl P (T.2 (s + k))) A1 (ro_g P 1 2 (tkl P (T.2 (s + k))) a (fun _ => false, [])) = z at q3 ⊢
          obtain ⟨l', hl'⟩ := ro_gapp (P := P) (pl := 1) (ru := 2) (f := tkl P (T.2 (s + k))) B1 (ro_F P 1 2 (e0 + 1) z).1 (ro_F P 1 2 (e0 + 1) z).2
          have hl'' : (ro_g P 1 2 (tkl P (T.2 (s + k))) B1 (ro_F P 1 2 (e0 + 1) z)).2 = (ro_F P 1 2 (e0 + 1) z).2 ++ l' := hl'
          rw [hl'']
          have e4 : ro_F P 1 2 (e0 + 1) z = ro_F P 1 2 (e0 + 1) (z.1, z.2) := rfl
          rw [e4, ro_Fapp]
          simp [q3]
        rw [r2] at h1
        exact (List.mem_append.mp h1).resolve_left hne
      have hrow : (rws P T (s + k + 1)).1 = tr P ((ro_g P 1 2 (tkl P (T.2 (s + k))) a (fun _ => false, [])).2 ++ b1 ++ g1) := by
        show tr P (au_r2 P (T.2 (s + k)) (rws P T (s + k))).2 = _
        rw [r1]
      have hfa : hf P (ro_g P 1 2 (tkl P (T.2 (s + k))) a (fun _ => false, [])).2 = false := by
        cases hx : hf P (ro_g P 1 2 (tkl P (T.2 (s + k))) a (fun _ => false, [])).2 with
        | false => rfl
        | true =>
          rw [hrow, List.append_assoc, tr_app _ _ hx] at he
          exact absurd (tr_mem _ e he) hne
      obtain ⟨g', v1, v2⟩ := r4 hfa
      exact ⟨s, k + 1, _, _, g', rfl, v1, v2 e hb1 he hne⟩
    · -- a new beginning
      have ho : au_o P (rws P T p) = true := by
        cases hx : au_o P (rws P T p) with
        | true => rfl
        | false =>
          exfalso
          unfold au_r2 at het
          rw [hx] at het
          exact hin het
      have e0 : au_r2 P (T.2 p) (rws P T p) = ro_F P 1 2 0 ((au_r P (T.2 p) (rws P T p)).1, (au_r P (T.2 p) (rws P T p)).2) := by
        unfold au_r2
        rw [if_pos ho]
      obtain ⟨lr, dr, er⟩ := DF_g (pl := 1) (ru := 2) hW (fun e (h : tkl P (T.2 p) e = true) => tkl7 h) (rws P T p).1 (fun _ => false, []) hI.2.1 (ro_J0 hW)
      have er : (au_r P (T.2 p) (rws P T p)).2 = lr := er
      have dr : DF P 1 2 _ (fun _ => false) (au_r P (T.2 p) (rws P T p)).1 lr := dr
      have d0 := DF_F (pl := 1) (ru := 2) hW hJr hW.1
      have ds := DF_F (pl := 1) (ru := 2) (i := 0) (s := (fun _ => false, [])) hW (ro_J0 hW) hW.1
      obtain ⟨k1, -⟩ := DF_key (DF_cl dr cl_0).1 ds d0 rfl
      rw [fil_M dr ds] at k1
      have e2 : (au_r2 P (T.2 p) (rws P T p)).2 = lr ++ (ro_F P 1 2 0 ((au_r P (T.2 p) (rws P T p)).1, [])).2 := by
        rw [e0, ro_Fapp, er]
      have el2 : l2 P T (p + 1) 0 = (ro_F P 1 2 0 (fun _ => false, [])).2 := by
        show (ro_F P (p + 1) 2 0 (fun _ => false, [])).2 = _
        rw [ro_F_pl (b := 1) (by omega)]
      rw [← el2] at k1
      rw [er] at hin
      have hrow : (rws P T (p + 1)).1 = tr P (lr ++ (ro_F P 1 2 0 ((au_r P (T.2 p) (rws P T p)).1, [])).2) := by
        show tr P (au_r2 P (T.2 p) (rws P T p)).2 = _
        rw [e2]
      have hfa : hf P lr = false := by
        cases hx : hf P lr with
        | false => rfl
        | true =>
          rw [hrow, tr_app _ _ hx] at he
          exact absurd (tr_mem _ e he) hin
      obtain ⟨g', q1, q2⟩ := Iv_cut (P := P) (g := []) hfa k1
      rw [List.append_nil] at q1
      refine ⟨p + 1, 0, lr, (tr P (l2 P T (p + 1) 0)).filter (fun e => !decide (e ∈ lr)), g', rfl, ⟨by rw [Nat.add_zero, hrow, q1], hfa, rfl⟩, ?_⟩
      refine q2 e ?_ ?_
      · rw [e2] at het
        exact (List.mem_append.mp het).resolve_left hin
      · rw [List.append_nil]
        rw [hrow, tr_app2 _ _ hfa] at he
        exact (List.mem_append.mp he).resolve_left hin
end SG
