/-! THE HEAP ROWS of the leads-to judgement -/
def lt_lkF (own : String) (idx : Nat) (t : String × String × String × Bool) : Prop := (Cond.fieldLink own idx t.1 t.2.1 t.2.2.1 ∈ lt_T) ∨ ∃ host : String, Cond.fieldLinkNest own idx t.1 t.2.1 t.2.2.1 host ∈ lt_N
theorem hv_at.kept {G : lt_G} {σ σ' : hv_S} {a : Nat} {x : Nat × Nat} {H H1 : Heap} (h : hv_at G σ a x H) (hq : H1[a]? = H[a]?) (hf : ∀ ty k, hv_fv ty σ' a k = hv_fv ty σ a k) : hv_at G σ' a x H1 := by
  unfold hv_at at h ⊢
  by_cases hx : x.1 < 1000
  · rw [if_pos hx] at h ⊢
    obtain ⟨r, hr, ho⟩ := h
    exact ⟨r, hr, (ho.kept hq).to (fun k _ => (hf _ k).symm)⟩
  · rw [if_neg hx] at h ⊢
    by_cases hx2 : x.1 < 2000
    · rw [if_pos hx2] at h ⊢
      rw [hq, h]
      exact congrArg (fun f => some (arrV (G.2.1 (x.1 - 1000)) x.2 f)) (funext fun j => (hf _ j).symm)
    · rw [if_neg hx2] at h ⊢
      obtain ⟨scr, h1, h2, h3, h4, h5, h6⟩ := h
      exact ⟨scr, hq.trans h1, h2, h3, h4, h5, fun j hj => (h6 j hj).trans (congrArg some (hf .int j).symm)⟩
theorem hv_arr {G : lt_G} {σ : hv_S} {a t n : Nat} {H : Heap} (ht : t < 1000) (h : hv_at G σ a (1000 + t, n) H) : H[a]? = some (arrV (G.2.1 t) n (fun j => hv_fv (lt_aty t) σ a j)) := by
  unfold hv_at at h
  rw [if_neg (by show ¬ 1000 + t < 1000; omega), if_pos (by show 1000 + t < 2000; omega)] at h
  have h : H[a]? = some (arrV (G.2.1 (1000 + t - 1000)) n (fun j => hv_fv (lt_aty (1000 + t - 1000)) σ a j)) := h
  rw [show 1000 + t - 1000 = t by omega] at h
  exact h
theorem hv_arr_of {G : lt_G} {σ : hv_S} {a t n : Nat} {H : Heap} (ht : t < 1000) (h : H[a]? = some (arrV (G.2.1 t) n (fun j => hv_fv (lt_aty t) σ a j))) : hv_at G σ a (1000 + t, n) H := by
  unfold hv_at
  rw [if_neg (by show ¬ 1000 + t < 1000; omega), if_pos (by show 1000 + t < 2000; omega)]
  show H[a]? = some (arrV (G.2.1 (1000 + t - 1000)) n (fun j => hv_fv (lt_aty (1000 + t - 1000)) σ a j))
  rw [show 1000 + t - 1000 = t by omega]
  exact h
theorem lt_small {t : Nat} (h : t ∈ lt_codes) : t < 1000 := by
  have : ∀ t ∈ lt_codes, t < 1000 := by decide
  exact this t h
theorem hv_at.lt {G : lt_G} {σ : hv_S} {a : Nat} {x : Nat × Nat} {H : Heap} (h : hv_at G σ a x H) : a < H.size := by
  unfold hv_at at h
  by_cases hx : x.1 < 1000
  · rw [if_pos hx] at h
    obtain ⟨r, hr, cell, h1, -⟩ := h
    exact (Array.getElem?_eq_some_iff.mp h1).1
  · rw [if_neg hx] at h
    by_cases hx2 : x.1 < 2000
    · rw [if_pos hx2] at h
      exact (Array.getElem?_eq_some_iff.mp h).1
    · rw [if_neg hx2] at h
      obtain ⟨scr, h1, -⟩ := h
      exact (Array.getElem?_eq_some_iff.mp h1).1
/-- σ' is σ but for the slot k of the cell a -/
def hv_upd (σ σ' : hv_S) (a k : Nat) : Prop := (hv_sh σ' = hv_sh σ ∧ hv_n σ' = hv_n σ) ∧ ∀ (ty : FieldType) (b j : Nat), (b ≠ a ∨ j ≠ k) → hv_fv ty σ' b j = hv_fv ty σ b j
theorem hv_u_ne {α : Type} {f : Nat → Nat → α} {a k b j : Nat} {v : α} (h : b ≠ a ∨ j ≠ k) : hv_u f a k v b j = f b j := if_neg (fun q => h.elim (fun h => h q.2) (fun h => h q.1))
theorem hv_u_at {α : Type} {f : Nat → Nat → α} {a k : Nat} {v : α} : hv_u f a k v a k = v := if_pos ⟨rfl, rfl⟩
theorem hv_upd_I (σ : hv_S) (a k : Nat) (v : Int32) : hv_upd σ (hv_setI σ a k v) a k := ⟨⟨rfl, rfl⟩, fun ty b j h => by cases ty <;> simp [hv_fv, hv_setI, hv_I, hv_J, hv_R, hv_u_ne h]⟩
theorem hv_upd_J (σ : hv_S) (a k : Nat) (v : Int64) : hv_upd σ (hv_setJ σ a k v) a k := ⟨⟨rfl, rfl⟩, fun ty b j h => by cases ty <;> simp [hv_fv, hv_setJ, hv_I, hv_J, hv_R, hv_u_ne h]⟩
theorem hv_upd_R (σ : hv_S) (a k : Nat) (v : Option Nat) : hv_upd σ (hv_setR σ a k v) a k := ⟨⟨rfl, rfl⟩, fun ty b j h => by cases ty <;> simp [hv_fv, hv_setR, hv_I, hv_J, hv_R, hv_u_ne h]⟩
theorem lt_arr {G : lt_G} {s : State} (hK : lt_K G s) {t : Nat} (ht : t ∈ lt_codes) : ArrOfT s (G.2.1 t) (lt_aty t) ∧ va_RA s (G.2.1 t) (lt_aty t) := by
  have h : (G.2.1 t, lt_aty t) ∈ lt_tys G := List.mem_map.mpr ⟨t, ht, rfl⟩
  obtain ⟨k, hk⟩ := List.getElem?_of_mem h
  exact hK.1.2 k _ hk
/-- behind a write of one slot of an array -/
theorem lt_H.arr {G : lt_G} {σ σ' : hv_S} {s : State} {H H1 : Heap} {locs : List Loc} {A : Nat → Prop} {a t n k : Nat} {v : Value} (h : lt_H G σ s H locs A) (ht : t < 1000) (hsh : hv_sh σ a = some (1000 + t, n)) (hu : hv_upd σ σ' a k) (hv : hv_fv (lt_aty t) σ' a k = v)
    (e : H1[a]? = some ((arrV (G.2.1 t) n (fun j => hv_fv (lt_aty t) σ a j)).setSlot k v)) (z : H1.size = H.size) (oq : ∀ q : Nat, q ≠ a → H1[q]? = H[q]?) : lt_H G σ' s H1 (locs ++ [⟨a, k⟩]) A := by
  obtain ⟨g1, g2, g3⟩ := h
  refine ⟨⟨by rw [z, hu.1.2]; exact g1.1, fun b x hb => ?_⟩, fun b x hb h2 => g2 b x (by rw [← hu.1.1]; exact hb) h2, g3.put z oq (g2 a _ hsh (by omega))⟩
  rw [hu.1.1] at hb
  by_cases hba : b = a
  · subst hba
    cases hsh.symm.trans hb
    refine hv_arr_of ht ?_
    rw [e, arrV_store]
    refine congrArg (fun f => some (arrV (G.2.1 t) n f)) (funext fun j => ?_)
    by_cases hj : j = k
    · subst hj
      rw [hv]
      exact if_pos rfl
    · rw [hu.2 _ b j (Or.inr hj)]
      exact if_neg hj
  · exact (g1.2 b x hb).kept (oq b hba) (fun ty j => hu.2 ty b j (Or.inl hba))
/-- behind a write of a field -/
theorem lt_H.obj {G : lt_G} {σ σ' : hv_S} {s : State} {H H1 : Heap} {locs : List Loc} {A : Nat → Prop} {a ci n k sl : Nat} {v : Value} {cell : Cell} {C : String} {T : u_T} {N : Nat} (h : lt_H G σ s H locs A) (hsh : hv_sh σ a = some (ci, n)) (hci : ci < 1000) (hcl : lt_cl[ci]? = some (C, T, N)) (hk : k < N) (hu : hv_upd σ σ' a k) (hv : hv_fv (lt_ty ci k) σ' a k = v)
    (hap : ∀ x y, x < N → y < N → x ≠ y → (G.1.2 ci) x ≠ (G.1.2 ci) y) (q2 : cell.cls = G.1.1 ci) (q3 : cell.vm = .none) (q4 : ∀ k, k < N → cell.slots[G.1.2 ci k]? = some (hv_fv (lt_ty ci k) σ a k))
    (e : H1[a]? = some (cell.setSlot (G.1.2 ci k) v)) (z : H1.size = H.size) (oq : ∀ q : Nat, q ≠ a → H1[q]? = H[q]?) : lt_H G σ' s H1 (locs ++ [⟨a, sl⟩]) A := by
  obtain ⟨g1, g2, g3⟩ := h
  refine ⟨⟨by rw [z, hu.1.2]; exact g1.1, fun b x hb => ?_⟩, fun b x hb h2 => g2 b x (by rw [← hu.1.1]; exact hb) h2, g3.put z oq (g2 a _ hsh (by omega))⟩
  rw [hu.1.1] at hb
  by_cases hba : b = a
  · subst hba
    cases hsh.symm.trans hb
    unfold hv_at
    rw [if_pos hci]
    refine ⟨_, hcl, t_OB.to (V := updV (fun k => hv_fv (lt_ty ci k) σ b k) k v) ⟨_, e, q2, q3, t_set q4 hap hk v⟩ (fun j _ => ?_)⟩
    show (if j = k then v else hv_fv (lt_ty ci j) σ b j) = hv_fv (lt_ty ci j) σ' b j
    by_cases hj : j = k
    · subst hj
      rw [if_pos rfl, hv]
    · rw [if_neg hj, hu.2 _ b j (Or.inr hj)]
  · exact (g1.2 b x hb).kept (oq b hba) (fun ty j => hu.2 ty b j (Or.inl hba))
section LTH
variable {G : lt_G} {μ : lt_M} {d pc : Nat} {lo lo' : List (Nat × Value)} {st : List Value} {σ : hv_S} {mc ms : Nat} {X : Nat → List (Nat × Value) → List Value → hv_S → Nat → Nat → Prop}
set_option maxHeartbeats 1000000 in
theorem lt_get {a ci n k idx : Nat} {C : String} {T : u_T} {N : Nat} {v : Value} (hd : decode μ.2.1 pc = .ok (.getfield idx, 3)) (hsh : hv_sh σ a = some (ci, n)) (hci : ci < 1000) (hcl : lt_cl[ci]? = some (C, T, N)) (hk : k < N) (hlk : lt_lkF μ.1.cls idx (T k)) (hv : hv_fv (lt_ty ci k) σ a k = v) (kk : Lt G μ d (pc + 3) lo (v :: st) σ mc ms X) : Lt G μ d pc lo (.ref a :: st) σ mc ms X := by
  intro p l e R s m args below meth c hC A hA hY Q hX H locs cells slots ls hl hH h1 h2
  have kk' := kk p l e R s m args below meth c hC A hA hY Q hX H locs cells slots ls hl hH h1 h2
  obtain ⟨hx, hb, -, -, hown, hts, hnw, hK, -⟩ := hC
  have hP := hH.1.2 a _ hsh
  unfold hv_at at hP
  rw [if_pos hci] at hP
  obtain ⟨r, hr, cell, q1, q2, q3, q4⟩ := hP
  cases hr.symm.trans hcl
  obtain ⟨hS, hfc, kC, hkC, hkind⟩ := hK.1.1 ci _ hcl
  obtain ⟨cf, kf, fi, f, hi, hsl⟩ := hS k hk
  have hst := (u_facts hfc hkC (u_lays hts (lt_in hcl) hk) hi).1
  have hval : cell.slots[f.slot]? = some v := by rw [hsl, q4 k hk]; exact congrArg some hv
  rcases hlk with h | ⟨host, h⟩
  · exact W.getf hx hb hown (hts _ h) hi hst q1 (by rw [q3]; exact fun h => by cases h) hval rfl rfl hd kk'
  · exact va_Wgetf hx hb hown (va_Nw.use rfl (hnw _ h)) hi hst q1 (by rw [q3]; exact fun h => by cases h) hval rfl rfl hd kk'
set_option maxHeartbeats 1000000 in
theorem lt_put {a ci n k idx : Nat} {C : String} {T : u_T} {N : Nat} {v : Value} {σ' : hv_S} (hd : decode μ.2.1 pc = .ok (.putfield idx, 3)) (hsh : hv_sh σ a = some (ci, n)) (hci : ci < 1000) (hcl : lt_cl[ci]? = some (C, T, N)) (hk : k < N) (hlk : lt_lkF μ.1.cls idx (T k)) (hfin : (T k).2.2.2 = false) (hn : narrow (lt_ty ci k) v = v) (hfit : fits (lt_ty ci k) v = true) (hu : hv_upd σ σ' a k) (hv : hv_fv (lt_ty ci k) σ' a k = v) (kk : Lt G μ d (pc + 3) lo st σ' mc ms X) : Lt G μ d pc lo (v :: .ref a :: st) σ mc ms X := by
  intro p l e R s m args below meth c hC A hA hY Q hX H locs cells slots ls hl hH h1 h2
  have kk' := fun H' locs' hH' => kk p l e R s m args below meth c hC A hA hY Q hX H' locs' cells slots ls hl hH' h1 h2
  obtain ⟨hx, hb, -, -, hown, hts, hnw, hK, -⟩ := hC
  have hP := hH.1.2 a _ hsh
  unfold hv_at at hP
  rw [if_pos hci] at hP
  obtain ⟨r, hr, cell, q1, q2, q3, q4⟩ := hP
  cases hr.symm.trans hcl
  have hap := va_apart (own := μ.1.cls) hts (lt_in hcl) (lt_ty ci) (lt_tyok hcl) (lt_nm hcl) hK.1 hcl
  obtain ⟨hS, hfc, kC, hkC, hkind⟩ := hK.1.1 ci _ hcl
  obtain ⟨cf, kf, fi, f, hi, hsl⟩ := hS k hk
  have hst := (u_facts hfc hkC (u_lays hts (lt_in hcl) hk) hi).1
  have hlay := hts _ (lt_in hcl _ (u_in_lay hk))
  unfold u_lay at hlay
  rw [if_neg (by rw [hfin]; decide)] at hlay
  have h6 := u_store hfc hkC hkind hlay hi (lt_tyok hcl k hk) hn hfit
  rcases hlk with h | ⟨host, h⟩
  · refine W.putK hx hb (f := f) ⟨hown, hts _ h, ⟨_, _, _, hi⟩, hst⟩ (by rw [q2]; exact h6) q1 q3 (by rw [hsl]; exact k2_hasslot (q4 k hk)) rfl rfl hd fun H' e1 e2 e3 => ?_
    rw [hsl] at e1
    exact kk' H' _ (hH.obj hsh hci hcl hk hu hv hap q2 q3 q4 e1 e2 e3)
  · refine va_WputK hx hb (f := f) hown (va_Nw.use rfl (hnw _ h)) hi hst (by rw [q2]; exact h6) q1 q3 (by rw [hsl]; exact k2_hasslot (q4 k hk)) rfl rfl hd fun H' e1 e2 e3 => ?_
    rw [hsl] at e1
    exact kk' H' _ (hH.obj hsh hci hcl hk hu hv hap q2 q3 q4 e1 e2 e3)
set_option maxHeartbeats 1000000 in
/-- a final field, in its own constructor -/
theorem lt_putF {a ci n k idx : Nat} {C : String} {T : u_T} {N : Nat} {v : Value} {σ' : hv_S} (hd : decode μ.2.1 pc = .ok (.putfield idx, 3)) (hsh : hv_sh σ a = some (ci, n)) (hci : ci < 1000) (hcl : lt_cl[ci]? = some (C, T, N)) (hk : k < N) (hlk : Cond.fieldLink μ.1.cls idx (T k).1 (T k).2.1 (T k).2.2.1 ∈ lt_T) (hfin : (T k).2.2.2 = true) (hin2 : μ.1.name = "<init>") (hdecl : (T k).1 = μ.1.cls) (hn : narrow (lt_ty ci k) v = v) (hfit : fits (lt_ty ci k) v = true) (hu : hv_upd σ σ' a k) (hv : hv_fv (lt_ty ci k) σ' a k = v) (kk : Lt G μ d (pc + 3) lo st σ' mc ms X) : Lt G μ d pc lo (v :: .ref a :: st) σ mc ms X := by
  intro p l e R s m args below meth c hC A hA hY Q hX H locs cells slots ls hl hH h1 h2
  have kk' := fun H' locs' hH' => kk p l e R s m args below meth c hC A hA hY Q hX H' locs' cells slots ls hl hH' h1 h2
  obtain ⟨hx, hb, -, -, hown, hts, hnw, hK, -, hname, -⟩ := hC
  have hP := hH.1.2 a _ hsh
  unfold hv_at at hP
  rw [if_pos hci] at hP
  obtain ⟨r, hr, cell, q1, q2, q3, q4⟩ := hP
  cases hr.symm.trans hcl
  have hap := va_apart (own := μ.1.cls) hts (lt_in hcl) (lt_ty ci) (lt_tyok hcl) (lt_nm hcl) hK.1 hcl
  obtain ⟨hS, hfc, kC, hkC, hkind⟩ := hK.1.1 ci _ hcl
  obtain ⟨cf, kf, fi, f, hi, hsl⟩ := hS k hk
  have hst := (u_facts hfc hkC (u_lays hts (lt_in hcl) hk) hi).1
  have hlay := hts _ (lt_in hcl _ (u_in_lay hk))
  unfold u_lay at hlay
  rw [if_pos hfin] at hlay
  have hcf : m.cls = cf := by
    obtain ⟨_, _, c', _, _, _, -, -, hf', -, -, -, hown2, -⟩ := Cond.laysFinal_spec hlay
    have e1 : c' = cf := by have := hi.symm.trans hf'; simp at this; exact this.1.symm
    rw [hdecl] at hown2
    rw [← e1]; exact Option.some.inj (hown.symm.trans hown2)
  have h6 := u_fits hfc hkC hkind (Or.inr hlay) hi (lt_tyok hcl k hk) hn hfit
  refine W.putFinK hx hb hown (hts _ hlk) hi hst hcf (hname.trans hin2) (by rw [q2]; exact h6) q1 q3 (by rw [hsl]; exact k2_hasslot (q4 k hk)) rfl rfl hd fun H' e1 e2 e3 => ?_
  rw [hsl] at e1
  exact kk' H' _ (hH.obj hsh hci hcl hk hu hv hap q2 q3 q4 e1 e2 e3)
theorem lt_iald {a n : Nat} {i : Int32} (hd : decode μ.2.1 pc = .ok (.iaload, 1)) (hsh : hv_sh σ a = some (1000, n)) (hin : vp_in i n) (kk : Lt G μ d (pc + 1) lo (.int (hv_I σ a i.toNatClampNeg) :: st) σ mc ms X) : Lt G μ d pc lo (.int i :: .ref a :: st) σ mc ms X := by
  intro p l e R s m args below meth c hC A hA hY Q hX H locs cells slots ls hl hH h1 h2
  have kk' := kk p l e R s m args below meth c hC A hA hY Q hX H locs cells slots ls hl hH h1 h2
  obtain ⟨hx, hb, -, -, hown, hts, hnw, hK, -⟩ := hC
  have hlt : i.toNatClampNeg < n := Nat.not_le.mp fun q => hin (Or.inr q)
  have hP : H[a]? = some (arrV (G.2.1 0) n (fun j => .int (hv_I σ a j))) := hv_arr (t := 0) (by decide) (hH.1.2 a _ hsh)
  exact W.iald (v := .int (hv_I σ a i.toNatClampNeg)) hx hb hP ((lt_arr hK (t := 0) (by decide)).1 n _) (fun q => by cases q) (by rw [arrV_size]; exact hin) (by rw [arrV_read _ _ hlt]) rfl rfl hd kk'
theorem lt_lald {a n : Nat} {i : Int32} (hd : decode μ.2.1 pc = .ok (.laload, 1)) (hsh : hv_sh σ a = some (1001, n)) (hin : vp_in i n) (kk : Lt G μ d (pc + 1) lo (.long (hv_J σ a i.toNatClampNeg) :: st) σ mc ms X) : Lt G μ d pc lo (.int i :: .ref a :: st) σ mc ms X := by
  intro p l e R s m args below meth c hC A hA hY Q hX H locs cells slots ls hl hH h1 h2
  have kk' := kk p l e R s m args below meth c hC A hA hY Q hX H locs cells slots ls hl hH h1 h2
  obtain ⟨hx, hb, -, -, hown, hts, hnw, hK, -⟩ := hC
  have hlt : i.toNatClampNeg < n := Nat.not_le.mp fun q => hin (Or.inr q)
  have hP : H[a]? = some (arrV (G.2.1 1) n (fun j => .long (hv_J σ a j))) := hv_arr (t := 1) (by decide) (hH.1.2 a _ hsh)
  exact W.lald (v := .long (hv_J σ a i.toNatClampNeg)) hx hb hP ((lt_arr hK (t := 1) (by decide)).1 n _) (fun q => by cases q) (by rw [arrV_size]; exact hin) (by rw [arrV_read _ _ hlt]) rfl rfl hd kk'
theorem lt_cald {a n : Nat} {i : Int32} (hd : decode μ.2.1 pc = .ok (.caload, 1)) (hsh : hv_sh σ a = some (1002, n)) (hin : vp_in i n) (kk : Lt G μ d (pc + 1) lo (.int (hv_I σ a i.toNatClampNeg) :: st) σ mc ms X) : Lt G μ d pc lo (.int i :: .ref a :: st) σ mc ms X := by
  intro p l e R s m args below meth c hC A hA hY Q hX H locs cells slots ls hl hH h1 h2
  have kk' := kk p l e R s m args below meth c hC A hA hY Q hX H locs cells slots ls hl hH h1 h2
  obtain ⟨hx, hb, -, -, hown, hts, hnw, hK, -⟩ := hC
  have hlt : i.toNatClampNeg < n := Nat.not_le.mp fun q => hin (Or.inr q)
  have hP : H[a]? = some (arrV (G.2.1 2) n (fun j => .int (hv_I σ a j))) := hv_arr (t := 2) (by decide) (hH.1.2 a _ hsh)
  exact W.cald (v := .int (hv_I σ a i.toNatClampNeg)) hx hb hP ((lt_arr hK (t := 2) (by decide)).1 n _) (fun q => by cases q) (by rw [arrV_size]; exact hin) (by rw [arrV_read _ _ hlt]) rfl rfl hd kk'
theorem lt_zald {a n : Nat} {i : Int32} (hd : decode μ.2.1 pc = .ok (.baload, 1)) (hsh : hv_sh σ a = some (1003, n)) (hin : vp_in i n) (kk : Lt G μ d (pc + 1) lo (.int (hv_I σ a i.toNatClampNeg) :: st) σ mc ms X) : Lt G μ d pc lo (.int i :: .ref a :: st) σ mc ms X := by
  intro p l e R s m args below meth c hC A hA hY Q hX H locs cells slots ls hl hH h1 h2
  have kk' := kk p l e R s m args below meth c hC A hA hY Q hX H locs cells slots ls hl hH h1 h2
  obtain ⟨hx, hb, -, -, hown, hts, hnw, hK, -⟩ := hC
  have hlt : i.toNatClampNeg < n := Nat.not_le.mp fun q => hin (Or.inr q)
  have hP : H[a]? = some (arrV (G.2.1 3) n (fun j => .int (hv_I σ a j))) := hv_arr (t := 3) (by decide) (hH.1.2 a _ hsh)
  exact W.zald (v := .int (hv_I σ a i.toNatClampNeg)) hx hb hP ((lt_arr hK (t := 3) (by decide)).1 n _) (fun q => by cases q) (by rw [arrV_size]; exact hin) (by rw [arrV_read _ _ hlt]) rfl rfl hd kk'
theorem lt_aald {a n t : Nat} {C : String} {i : Int32} {v : Value} (hd : decode μ.2.1 pc = .ok (.aaload, 1)) (hsh : hv_sh σ a = some (1000 + t, n)) (hT : lt_aty t = .object C) (ht : t ∈ lt_codes) (hin : vp_in i n) (hv : va_rf (hv_R σ a i.toNatClampNeg) = v) (kk : Lt G μ d (pc + 1) lo (v :: st) σ mc ms X) : Lt G μ d pc lo (.int i :: .ref a :: st) σ mc ms X := by
  intro p l e R s m args below meth c hC A hA hY Q hX H locs cells slots ls hl hH h1 h2
  have kk' := kk p l e R s m args below meth c hC A hA hY Q hX H locs cells slots ls hl hH h1 h2
  obtain ⟨hx, hb, -, -, hown, hts, hnw, hK, -⟩ := hC
  have hlt : i.toNatClampNeg < n := Nat.not_le.mp fun q => hin (Or.inr q)
  have hP := hv_arr (lt_small ht) (hH.1.2 a _ hsh)
  rw [hT] at hP
  subst hv
  have hK1 := (lt_arr hK ht).1
  rw [hT] at hK1
  exact W.aald (v := va_rf (hv_R σ a i.toNatClampNeg)) (ty := .object C) hx hb hP (hK1 n _) rfl (fun q => by cases q) (by rw [arrV_size]; exact hin) (by rw [arrV_read _ _ hlt]; rfl) rfl rfl hd kk'
theorem lt_iast {a n : Nat} {i : Int32} {x : Int32} (hd : decode μ.2.1 pc = .ok (.iastore, 1)) (hsh : hv_sh σ a = some (1000, n)) (hin : vp_in i n) (kk : Lt G μ d (pc + 1) lo st (hv_setI σ a i.toNatClampNeg x) mc ms X) : Lt G μ d pc lo (.int x :: .int i :: .ref a :: st) σ mc ms X := by
  intro p l e R s m args below meth c hC A hA hY Q hX H locs cells slots ls hl hH h1 h2
  have kk' := fun H' locs' hH' => kk p l e R s m args below meth c hC A hA hY Q hX H' locs' cells slots ls hl hH' h1 h2
  obtain ⟨hx, hb, -, -, hown, hts, hnw, hK, -⟩ := hC
  have hP : H[a]? = some (arrV (G.2.1 0) n (fun j => .int (hv_I σ a j))) := hv_arr (t := 0) (by decide) (hH.1.2 a _ hsh)
  refine W.iast hx hb hP ((lt_arr hK (t := 0) (by decide)).1 n _) (fun q => by cases q) (by rw [arrV_size]; exact hin) rfl rfl hd fun H' e1 e2 e3 => ?_
  · exact kk' H' _ (lt_H.arr (t := 0) hH (by decide) hsh (hv_upd_I σ a i.toNatClampNeg x) (by show Value.int (hv_u _ _ _ _ _ _) = _; rw [hv_u_at]) e1 e2 e3)
theorem lt_last {a n : Nat} {i : Int32} {x : Int64} (hd : decode μ.2.1 pc = .ok (.lastore, 1)) (hsh : hv_sh σ a = some (1001, n)) (hin : vp_in i n) (kk : Lt G μ d (pc + 1) lo st (hv_setJ σ a i.toNatClampNeg x) mc ms X) : Lt G μ d pc lo (.long x :: .int i :: .ref a :: st) σ mc ms X := by
  intro p l e R s m args below meth c hC A hA hY Q hX H locs cells slots ls hl hH h1 h2
  have kk' := fun H' locs' hH' => kk p l e R s m args below meth c hC A hA hY Q hX H' locs' cells slots ls hl hH' h1 h2
  obtain ⟨hx, hb, -, -, hown, hts, hnw, hK, -⟩ := hC
  have hP : H[a]? = some (arrV (G.2.1 1) n (fun j => .long (hv_J σ a j))) := hv_arr (t := 1) (by decide) (hH.1.2 a _ hsh)
  refine W.last hx hb hP ((lt_arr hK (t := 1) (by decide)).1 n _) (fun q => by cases q) (by rw [arrV_size]; exact hin) rfl rfl hd fun H' e1 e2 e3 => ?_
  · exact kk' H' _ (lt_H.arr (t := 1) hH (by decide) hsh (hv_upd_J σ a i.toNatClampNeg x) (by show Value.long (hv_u _ _ _ _ _ _) = _; rw [hv_u_at]) e1 e2 e3)
theorem lt_cast {a n : Nat} {i : Int32} {x y : Int32} (hd : decode μ.2.1 pc = .ok (.castore, 1)) (hsh : hv_sh σ a = some (1002, n)) (hin : vp_in i n) (hy : narrow .char (.int x) = .int y) (kk : Lt G μ d (pc + 1) lo st (hv_setI σ a i.toNatClampNeg y) mc ms X) : Lt G μ d pc lo (.int x :: .int i :: .ref a :: st) σ mc ms X := by
  intro p l e R s m args below meth c hC A hA hY Q hX H locs cells slots ls hl hH h1 h2
  have kk' := fun H' locs' hH' => kk p l e R s m args below meth c hC A hA hY Q hX H' locs' cells slots ls hl hH' h1 h2
  obtain ⟨hx, hb, -, -, hown, hts, hnw, hK, -⟩ := hC
  have hP : H[a]? = some (arrV (G.2.1 2) n (fun j => .int (hv_I σ a j))) := hv_arr (t := 2) (by decide) (hH.1.2 a _ hsh)
  refine W.cast hx hb hP ((lt_arr hK (t := 2) (by decide)).1 n _) (fun q => by cases q) (by rw [arrV_size]; exact hin) rfl rfl hd fun H' e1 e2 e3 => ?_
  · rw [hy] at e1
    exact kk' H' _ (lt_H.arr (t := 2) hH (by decide) hsh (hv_upd_I σ a i.toNatClampNeg y) (by show Value.int (hv_u _ _ _ _ _ _) = _; rw [hv_u_at]) e1 e2 e3)
theorem lt_zast {a n : Nat} {i : Int32} {x y : Int32} (hd : decode μ.2.1 pc = .ok (.bastore, 1)) (hsh : hv_sh σ a = some (1003, n)) (hin : vp_in i n) (hy : narrow .boolean (.int x) = .int y) (kk : Lt G μ d (pc + 1) lo st (hv_setI σ a i.toNatClampNeg y) mc ms X) : Lt G μ d pc lo (.int x :: .int i :: .ref a :: st) σ mc ms X := by
  intro p l e R s m args below meth c hC A hA hY Q hX H locs cells slots ls hl hH h1 h2
  have kk' := fun H' locs' hH' => kk p l e R s m args below meth c hC A hA hY Q hX H' locs' cells slots ls hl hH' h1 h2
  obtain ⟨hx, hb, -, -, hown, hts, hnw, hK, -⟩ := hC
  have hP : H[a]? = some (arrV (G.2.1 3) n (fun j => .int (hv_I σ a j))) := hv_arr (t := 3) (by decide) (hH.1.2 a _ hsh)
  refine W.zast hx hb hP ((lt_arr hK (t := 3) (by decide)).1 n _) (fun q => by cases q) (by rw [arrV_size]; exact hin) rfl rfl hd fun H' e1 e2 e3 => ?_
  · rw [hy] at e1
    exact kk' H' _ (lt_H.arr (t := 3) hH (by decide) hsh (hv_upd_I σ a i.toNatClampNeg y) (by show Value.int (hv_u _ _ _ _ _ _) = _; rw [hv_u_at]) e1 e2 e3)
theorem lt_alen {a n t : Nat} (hd : decode μ.2.1 pc = .ok (.arraylength, 1)) (hsh : hv_sh σ a = some (1000 + t, n)) (ht : t ∈ lt_codes) (kk : Lt G μ d (pc + 1) lo (.int (nI n) :: st) σ mc ms X) : Lt G μ d pc lo (.ref a :: st) σ mc ms X := by
  intro p l e R s m args below meth c hC A hA hY Q hX H locs cells slots ls hl hH h1 h2
  have kk' := kk p l e R s m args below meth c hC A hA hY Q hX H locs cells slots ls hl hH h1 h2
  obtain ⟨hx, hb, -, -, hown, hts, hnw, hK, -⟩ := hC
  have hP := hv_arr (lt_small ht) (hH.1.2 a _ hsh)
  exact W.alen hx hb hP ((lt_arr hK ht).1 n _) (by rw [arrV_size]; rfl) rfl rfl hd kk'
theorem lt_ro {G : lt_G} {σ : hv_S} {s : State} {H : Heap} {a n : Nat} (hK : lt_K G s) (h : hv_at G σ a (2000, n) H) : ∃ scr : Cell, H[a]? = some scr ∧ s.isArrayOf scr .int ∧ scr.vm ≠ .unknown ∧ scr.slots.size = n ∧ ∀ j : Nat, j < n → scr.slots[j]? = some (.int (hv_I σ a j)) := by
  unfold hv_at at h
  rw [if_neg (by show ¬ 2000 < 1000; decide), if_neg (by show ¬ 2000 < 2000; decide)] at h
  obtain ⟨scr, h1, h2, h3, h4, h5, h6⟩ := h
  obtain ⟨-, kA, f2, f3⟩ := hK.2 0 (fun _ => .null)
  refine ⟨scr, h1, ⟨h3, kA, ?_, f3⟩, h4, h5, h6⟩
  rw [h2]; exact f2
theorem lt_roald {a n : Nat} {i : Int32} (hd : decode μ.2.1 pc = .ok (.iaload, 1)) (hsh : hv_sh σ a = some (2000, n)) (hin : vp_in i n) (kk : Lt G μ d (pc + 1) lo (.int (hv_I σ a i.toNatClampNeg) :: st) σ mc ms X) : Lt G μ d pc lo (.int i :: .ref a :: st) σ mc ms X := by
  intro p l e R s m args below meth c hC A hA hY Q hX H locs cells slots ls hl hH h1 h2
  have kk' := kk p l e R s m args below meth c hC A hA hY Q hX H locs cells slots ls hl hH h1 h2
  obtain ⟨hx, hb, -, -, hown, hts, hnw, hK, -⟩ := hC
  have hlt : i.toNatClampNeg < n := Nat.not_le.mp fun q => hin (Or.inr q)
  obtain ⟨scr, g1, g2, g3, g4, g5⟩ := lt_ro hK (hH.1.2 a _ hsh)
  exact W.iald (v := .int (hv_I σ a i.toNatClampNeg)) hx hb g1 g2 g3 (by rw [g4]; exact hin) (g5 _ hlt) rfl rfl hd kk'
theorem lt_rolen {a n : Nat} (hd : decode μ.2.1 pc = .ok (.arraylength, 1)) (hsh : hv_sh σ a = some (2000, n)) (kk : Lt G μ d (pc + 1) lo (.int (nI n) :: st) σ mc ms X) : Lt G μ d pc lo (.ref a :: st) σ mc ms X := by
  intro p l e R s m args below meth c hC A hA hY Q hX H locs cells slots ls hl hH h1 h2
  have kk' := kk p l e R s m args below meth c hC A hA hY Q hX H locs cells slots ls hl hH h1 h2
  obtain ⟨hx, hb, -, -, hown, hts, hnw, hK, -⟩ := hC
  obtain ⟨scr, g1, g2, g3, g4, g5⟩ := lt_ro hK (hH.1.2 a _ hsh)
  exact W.alen hx hb g1 g2 (by rw [g4]; rfl) rfl rfl hd kk'
/-- a new cell beside the old ones -/
theorem lt_H.add {G : lt_G} {σ : hv_S} {s : State} {H H1 : Heap} {locs : List Loc} {A : Nat → Prop} {x : Nat × Nat} (h : lt_H G σ s H locs A) (hA : ∀ q : Nat, s.heap.size ≤ q → A q) (hn : hv_at G (hv_new σ x) (hv_n σ) x H1) (z : H1.size = H.size + 1) (o : ∀ q : Nat, q < H.size → H1[q]? = H[q]?) : lt_H G (hv_new σ x) s H1 locs A := by
  obtain ⟨g1, g2, g3⟩ := h
  refine ⟨⟨by rw [z, g1.1]; rfl, fun b y hb => ?_⟩, fun b y hb h9 => ?_, ⟨Nat.le_trans g3.1 (by omega), fun q h1 h2 => (o q (Nat.lt_of_lt_of_le h1 g3.1)).trans (g3.2.1 q h1 h2), g3.2.2⟩⟩
  · by_cases hbq : b = hv_n σ
    · subst hbq
      have : hv_sh (hv_new σ x) (hv_n σ) = some x := if_pos rfl
      cases this.symm.trans hb
      exact hn
    · have h0 : hv_sh (hv_new σ x) b = hv_sh σ b := if_neg hbq
      rw [h0] at hb
      refine (g1.2 b y hb).kept (o b (g1.2 b y hb).lt) (fun ty k => ?_)
      cases ty <;> simp [hv_fv, hv_new, hv_I, hv_J, hv_R, hbq]
  · by_cases hbq : b = hv_n σ
    · subst hbq
      exact hA _ (by rw [← g1.1]; exact g3.1)
    · have h0 : hv_sh (hv_new σ x) b = hv_sh σ b := if_neg hbq
      rw [h0] at hb
      exact g2 b y hb h9
theorem hv_new_fv (σ : hv_S) (x : Nat × Nat) (ty : FieldType) (k : Nat) : hv_fv ty (hv_new σ x) (hv_n σ) k = hv_fv ty hv_zero 0 0 := by
  cases ty <;> simp [hv_fv, hv_new, hv_zero, hv_I, hv_J, hv_R]
set_option maxHeartbeats 1000000 in
theorem lt_new {ci idx : Nat} {C : String} {T : u_T} {N : Nat} (hd : decode μ.2.1 pc = .ok (.new idx, 3)) (hci : ci < 1000) (hcl : lt_cl[ci]? = some (C, T, N)) (hl1 : Cond.classLink μ.1.cls idx C ∈ lt_T) (hl2 : Cond.instantiable C N ∈ lt_T) (hl3 : Cond.initialized C ∈ lt_T)
    (hdef : ∀ j, j < N → defaultValue (lt_ty ci j) = hv_fv (lt_ty ci j) hv_zero 0 0) (hf : hv_sh σ (hv_n σ) = none → Lt G μ d (pc + 3) lo (.ref (hv_n σ) :: st) (hv_new σ (ci, 0)) mc ms X) : Lt G μ d pc lo st σ (mc + 1) (ms + N) X := by
  intro p l e R s m args below meth c hC A hA hY Q hX H locs cells slots ls hl hH h1 h2
  have hfresh : hv_sh σ (hv_n σ) = none := by
    cases hq : hv_sh σ (hv_n σ) with
    | none => rfl
    | some y => exact absurd (hH.1.2 _ y hq).lt (by rw [hH.1.1]; exact Nat.lt_irrefl _)
  have kk' := fun H' hH' => hf hfresh p l e R s m args below meth c hC A hA hY Q hX H' locs (cells + 1) (slots + N) ls hl hH' (by omega) (by omega)
  obtain ⟨hx, hb, -, -, hown, hts, hnw, hK, -⟩ := hC
  have hKn := hK.1.1 ci _ hcl
  refine W.newcK hx hb hown (hts _ hl1) (hts _ hl2) (hts _ hl3) rfl hd (by omega) (by omega) hKn.2.1 hH.1.1 fun H1 kC hkC e1 z1 o1 => ?_
  refine kk' H1 (hH.add hA ?_ (by rw [hH.1.1]; exact z1) (fun q hq => o1 q (by rw [← hH.1.1]; exact hq)))
  unfold hv_at
  rw [if_pos hci]
  refine ⟨_, hcl, (u_born (lt_ty ci) hts (lt_in hcl) hKn hkC e1 (lt_tyok hcl)).to (fun j hj => ?_)⟩
  rw [hdef j hj, hv_new_fv]
set_option maxHeartbeats 1000000 in
theorem lt_newarray {t : Nat} {atype : ArrayType} {n : Int32} {N : Nat} (hd : decode μ.2.1 pc = .ok (.newarray atype, 2)) (hw : Cond.arrayClass (newarray.typeOf atype) ∈ lt_T) (ht : t ∈ lt_codes) (hty : lt_aty t = newarray.typeOf atype) (hn : ¬ n < 0) (hN : n.toNatClampNeg = N) (hbytes : N * componentBytes (newarray.typeOf atype) ≤ 536870912)
    (hdef : defaultValue (lt_aty t) = hv_fv (lt_aty t) hv_zero 0 0) (hf : hv_sh σ (hv_n σ) = none → Lt G μ d (pc + 2) lo (.ref (hv_n σ) :: st) (hv_new σ (1000 + t, N)) mc ms X) : Lt G μ d pc lo (.int n :: st) σ (mc + 1) (ms + N) X := by
  intro p l e R s m args below meth c hC A hA hY Q hX H locs cells slots ls hl hH h1 h2
  have hfresh : hv_sh σ (hv_n σ) = none := by
    cases hq : hv_sh σ (hv_n σ) with
    | none => rfl
    | some y => exact absurd (hH.1.2 _ y hq).lt (by rw [hH.1.1]; exact Nat.lt_irrefl _)
  have kk' := fun H' hH' => hf hfresh p l e R s m args below meth c hC A hA hY Q hX H' locs (cells + 1) (slots + N) ls hl hH' (by omega) (by omega)
  obtain ⟨hx, hb, -, -, hown, hts, hnw, hK, -⟩ := hC
  refine va_newaK hx hb (hts _ hw) rfl hd rfl hn hN hbytes (by omega) (by omega) hH.1.1 fun H1 cA e1 z1 o1 hAr hNm => ?_
  have hcA : G.2.1 t = cA := by
    have h9 := (lt_arr hK ht).2
    rw [hty] at h9
    have h8 : s.vm.findClass ("[" ++ (newarray.typeOf atype).toString) = some (G.2.1 t) := by
      cases atype <;> exact h9
    exact Option.some.inj (h8.symm.trans hNm)
  refine kk' H1 (hH.add hA ?_ (by rw [hH.1.1]; exact z1) (fun q hq => o1 q (by rw [← hH.1.1]; exact hq)))
  refine hv_arr_of (lt_small ht) ?_
  rw [e1, hcA]
  refine congrArg (fun f => some (arrV cA N f)) (funext fun j => ?_)
  rw [hv_new_fv, ← hty, hdef]
set_option maxHeartbeats 1000000 in
/-- an array of references -/
theorem lt_anew {t idx : Nat} {C : String} {n : Int32} {N : Nat} (hd : decode μ.2.1 pc = .ok (.anewarray idx, 3)) (hcl : Cond.classLink μ.1.cls idx C ∈ lt_T) (ht : t ∈ lt_codes) (hty : lt_aty t = .object C) (hw : Cond.arrayOver (.object C) ∈ lt_N) (hn : ¬ n < 0) (hN : n.toNatClampNeg = N) (hbytes : N * 4 ≤ 536870912)
    (hf : hv_sh σ (hv_n σ) = none → Lt G μ d (pc + 3) lo (.ref (hv_n σ) :: st) (hv_new σ (1000 + t, N)) mc ms X) : Lt G μ d pc lo (.int n :: st) σ (mc + 1) (ms + N) X := by
  intro p l e R s m args below meth c hC A hA hY Q hX H locs cells slots ls hl hH h1 h2
  have hfresh : hv_sh σ (hv_n σ) = none := by
    cases hq : hv_sh σ (hv_n σ) with
    | none => rfl
    | some y => exact absurd (hH.1.2 _ y hq).lt (by rw [hH.1.1]; exact Nat.lt_irrefl _)
  have kk' := fun H' hH' => hf hfresh p l e R s m args below meth c hC A hA hY Q hX H' locs (cells + 1) (slots + N) ls hl hH' (by omega) (by omega)
  obtain ⟨hx, hb, -, -, hown, hts, hnw, hK, -⟩ := hC
  subst hN
  refine W.anew hx hb hown (hts _ hcl) (va_AO.use (hnw _ hw)) rfl hd rfl hn hbytes (by omega) (by omega) fun cA kA comp f1 f2 f3 f4 => ?_
  have hcA : G.2.1 t = cA := by
    have h9 := (lt_arr hK ht).2
    rw [hty] at h9
    obtain ⟨_, _, -, -, -, h8⟩ := h9
    exact Option.some.inj (h8.symm.trans f1)
  have hsz := hH.1.1
  generalize hH1 : H.push ({ cls := cA, slots := Array.replicate n.toNatClampNeg .null, vm := .none } : Cell) = H1
  have z1 : H1.size = H.size + 1 := by rw [← hH1, Array.size_push]
  have e1 : H1[H.size]? = some (arrV cA n.toNatClampNeg (fun _ => .null)) := by rw [← hH1, Array.getElem?_push_size, ← arrV_new]
  have o1 : ∀ q : Nat, q < H.size → H1[q]? = H[q]? := fun q hq => by rw [← hH1, Array.getElem?_push, if_neg (Nat.ne_of_lt hq)]
  rw [hsz]
  refine kk' H1 (hH.add hA ?_ z1 o1)
  refine hv_arr_of (lt_small ht) ?_
  rw [← hsz, e1, hcA]
  refine congrArg (fun f => some (arrV cA n.toNatClampNeg f)) (funext fun j => ?_)
  rw [hsz, hv_new_fv, hty]
  rfl
set_option maxHeartbeats 1000000 in
/-- a reference into an array of references -/
theorem lt_aast {a v n t ci n2 : Nat} {C : String} {T : u_T} {N : Nat} {i : Int32} (hd : decode μ.2.1 pc = .ok (.aastore, 1)) (hsh : hv_sh σ a = some (1000 + t, n)) (ht : t ∈ lt_codes) (hty : lt_aty t = .object C) (hv : hv_sh σ v = some (ci, n2)) (hci : ci < 1000) (hcl : lt_cl[ci]? = some (C, T, N)) (hin : vp_in i n) (kk : Lt G μ d (pc + 1) lo st (hv_setR σ a i.toNatClampNeg (some v)) mc ms X) : Lt G μ d pc lo (.ref v :: .int i :: .ref a :: st) σ mc ms X := by
  intro p l e R s m args below meth c hC A hA hY Q hX H locs cells slots ls hl hH h1 h2
  have kk' := fun H' locs' hH' => kk p l e R s m args below meth c hC A hA hY Q hX H' locs' cells slots ls hl hH' h1 h2
  obtain ⟨hx, hb, -, -, hown, hts, hnw, hK, -⟩ := hC
  have hlt : i.toNatClampNeg < n := Nat.not_le.mp fun q => hin (Or.inr q)
  have h0 : ¬ i < 0 := fun q => hin (Or.inl q)
  have hV := hH.1.2 v _ hv
  unfold hv_at at hV
  rw [if_pos hci] at hV
  obtain ⟨r', hr', cellV, g1, g2, g3, -⟩ := hV
  have hP := hv_arr (lt_small ht) (hH.1.2 a _ hsh)
  have hcls := (hK.1.1 ci _ hcl).2
  have hRA := (lt_arr hK ht).2
  rw [hty] at hRA
  obtain ⟨kA, comp, k1, k2, k3, -⟩ := hRA
  have hcomp : comp = G.1.1 ci := Option.some.inj (k3.symm.trans hcls.1)
  subst hcomp
  obtain ⟨kC, hkC, -⟩ := hcls.2
  refine W.aast hx hb hP (fun q h => by cases h) (fun h => by cases h) k1 k2 rfl hkC ⟨h0, by rw [arrV_size]; exact hlt⟩ g1 (fun q h => by rw [g3] at h; cases h) (by rw [g2]; exact hkC) (by rw [g2]; exact va_assign hcls) rfl rfl hd fun H' e1 e2 e3 => ?_
  exact kk' H' _ (lt_H.arr (t := t) hH (lt_small ht) hsh (hv_upd_R σ a i.toNatClampNeg (some v)) (by rw [hty]; show va_rf (hv_u _ _ _ _ _ _) = _; rw [hv_u_at]; rfl) e1 e2 e3)
end LTH
