/-! THE HEAP ROWS AND CALLS over mini values -/
section LKI
variable {G : lt_G} {μ : lt_M} {d pc : Nat} {lo lo' : List (Nat × mV)} {st : List mV} {σ : hv_S} {mc ms : Nat} {X : Nat → List (Nat × mV) → List mV → hv_S → Nat → Nat → Prop}
/-- a field that holds a reference -/
def lt_isR (ty : FieldType) : Bool := match ty with
  | .object _ => true
  | .array _ => true
  | _ => false
theorem lt_isR_n {ty : FieldType} (h : lt_isR ty = true) (r : Option Nat) : narrow ty (va_rf r) = va_rf r ∧ fits ty (va_rf r) = true := by
  cases ty <;> first | (simp [lt_isR] at h; done) | (cases r <;> exact ⟨rfl, rfl⟩)
theorem lt_isR_v {ty : FieldType} (h : lt_isR ty = true) (σ : hv_S) (a k : Nat) : hv_fv ty σ a k = va_rf (hv_R σ a k) := by
  cases ty <;> first | (simp [lt_isR] at h; done) | rfl
theorem lk_putR {a ci k idx : Nat} {r x : Option Nat} {C : String} {T : u_T} {N : Nat} (hd : decode μ.2.1 pc = .ok (.putfield idx, 3)) (hx : x_ob σ ci r = some a) (hci : ci < 1000) (hcl : lt_cl[ci]? = some (C, T, N)) (hk : k < N) (hlk : lt_lkF μ.1.cls idx (T k)) (hfin : (T k).2.2.2 = false) (hty : lt_isR (lt_ty ci k) = true) (kk : Lk G μ d (pc + 3) lo st (hv_setR σ a k x) mc ms X) : Lk G μ d pc lo (vR x :: vR r :: st) σ mc ms X := by
  obtain ⟨rfl, hs⟩ := x_ob_some hx
  exact lt_put hd hs hci hcl hk hlk hfin (lt_isR_n hty x).1 (lt_isR_n hty x).2 (hv_upd_R σ a k x) (by rw [lt_isR_v hty]; show va_rf (hv_u _ _ _ _ _ _) = _; rw [hv_u_at]; rfl) kk
theorem lk_putFR {a ci k idx : Nat} {r x : Option Nat} {C : String} {T : u_T} {N : Nat} (hd : decode μ.2.1 pc = .ok (.putfield idx, 3)) (hx : x_ob σ ci r = some a) (hci : ci < 1000) (hcl : lt_cl[ci]? = some (C, T, N)) (hk : k < N) (hlk : Cond.fieldLink μ.1.cls idx (T k).1 (T k).2.1 (T k).2.2.1 ∈ lt_T) (hfin : (T k).2.2.2 = true) (hin2 : μ.1.name = "<init>") (hdecl : (T k).1 = μ.1.cls) (hty : lt_isR (lt_ty ci k) = true) (kk : Lk G μ d (pc + 3) lo st (hv_setR σ a k x) mc ms X) : Lk G μ d pc lo (vR x :: vR r :: st) σ mc ms X := by
  obtain ⟨rfl, hs⟩ := x_ob_some hx
  exact lt_putF hd hs hci hcl hk hlk hfin hin2 hdecl (lt_isR_n hty x).1 (lt_isR_n hty x).2 (hv_upd_R σ a k x) (by rw [lt_isR_v hty]; show va_rf (hv_u _ _ _ _ _ _) = _; rw [hv_u_at]; rfl) kk
theorem lk_putFI {a ci k idx : Nat} {r : Option Nat} {x : Int32} {C : String} {T : u_T} {N : Nat} (hd : decode μ.2.1 pc = .ok (.putfield idx, 3)) (hx : x_ob σ ci r = some a) (hci : ci < 1000) (hcl : lt_cl[ci]? = some (C, T, N)) (hk : k < N) (hlk : Cond.fieldLink μ.1.cls idx (T k).1 (T k).2.1 (T k).2.2.1 ∈ lt_T) (hfin : (T k).2.2.2 = true) (hin2 : μ.1.name = "<init>") (hdecl : (T k).1 = μ.1.cls) (hty : lt_ty ci k = .int) (kk : Lk G μ d (pc + 3) lo st (hv_setI σ a k x) mc ms X) : Lk G μ d pc lo (vI x :: vR r :: st) σ mc ms X := by
  obtain ⟨rfl, hs⟩ := x_ob_some hx
  exact lt_putF hd hs hci hcl hk hlk hfin hin2 hdecl (by rw [hty]; rfl) (by rw [hty]; rfl) (hv_upd_I σ a k x) (by rw [hty]; show Value.int (hv_u _ _ _ _ _ _) = _; rw [hv_u_at]; rfl) kk
theorem lk_iald {q : Nat × Nat} {k : Nat} {r : Option Nat} {i : Int32} (hd : decode μ.2.1 pc = .ok (.iaload, 1)) (hx : x_ar σ 0 r = some q) (hi : x_ix q.2 i = some k) (kk : Lk G μ d (pc + 1) lo (vI (hv_I σ q.1 k) :: st) σ mc ms X) : Lk G μ d pc lo (vI i :: vR r :: st) σ mc ms X := by
  obtain ⟨rfl, hs⟩ := x_ar_some hx
  obtain ⟨hv, rfl⟩ := x_ix_some hi
  exact lt_iald hd hs hv kk
theorem lk_lald {q : Nat × Nat} {k : Nat} {r : Option Nat} {i : Int32} (hd : decode μ.2.1 pc = .ok (.laload, 1)) (hx : x_ar σ 1 r = some q) (hi : x_ix q.2 i = some k) (kk : Lk G μ d (pc + 1) lo (vJ (hv_J σ q.1 k) :: st) σ mc ms X) : Lk G μ d pc lo (vI i :: vR r :: st) σ mc ms X := by
  obtain ⟨rfl, hs⟩ := x_ar_some hx
  obtain ⟨hv, rfl⟩ := x_ix_some hi
  exact lt_lald hd hs hv kk
theorem lk_cald {q : Nat × Nat} {k : Nat} {r : Option Nat} {i : Int32} (hd : decode μ.2.1 pc = .ok (.caload, 1)) (hx : x_ar σ 2 r = some q) (hi : x_ix q.2 i = some k) (kk : Lk G μ d (pc + 1) lo (vI (hv_I σ q.1 k) :: st) σ mc ms X) : Lk G μ d pc lo (vI i :: vR r :: st) σ mc ms X := by
  obtain ⟨rfl, hs⟩ := x_ar_some hx
  obtain ⟨hv, rfl⟩ := x_ix_some hi
  exact lt_cald hd hs hv kk
theorem lk_zald {q : Nat × Nat} {k : Nat} {r : Option Nat} {i : Int32} (hd : decode μ.2.1 pc = .ok (.baload, 1)) (hx : x_ar σ 3 r = some q) (hi : x_ix q.2 i = some k) (kk : Lk G μ d (pc + 1) lo (vI (hv_I σ q.1 k) :: st) σ mc ms X) : Lk G μ d pc lo (vI i :: vR r :: st) σ mc ms X := by
  obtain ⟨rfl, hs⟩ := x_ar_some hx
  obtain ⟨hv, rfl⟩ := x_ix_some hi
  exact lt_zald hd hs hv kk
theorem lk_aald {t : Nat} {C : String} {q : Nat × Nat} {k : Nat} {r : Option Nat} {i : Int32} (hd : decode μ.2.1 pc = .ok (.aaload, 1)) (hx : x_ar σ t r = some q) (hi : x_ix q.2 i = some k) (hT : lt_aty t = .object C) (ht : t ∈ lt_codes) (kk : Lk G μ d (pc + 1) lo (vR (hv_R σ q.1 k) :: st) σ mc ms X) : Lk G μ d pc lo (vI i :: vR r :: st) σ mc ms X := by
  obtain ⟨rfl, hs⟩ := x_ar_some hx
  obtain ⟨hv, rfl⟩ := x_ix_some hi
  exact lt_aald hd hs hT ht hv rfl kk
theorem lk_iast {q : Nat × Nat} {k : Nat} {r : Option Nat} {i x : Int32} (hd : decode μ.2.1 pc = .ok (.iastore, 1)) (hx : x_ar σ 0 r = some q) (hi : x_ix q.2 i = some k) (kk : Lk G μ d (pc + 1) lo st (hv_setI σ q.1 k x) mc ms X) : Lk G μ d pc lo (vI x :: vI i :: vR r :: st) σ mc ms X := by
  obtain ⟨rfl, hs⟩ := x_ar_some hx
  obtain ⟨hv, rfl⟩ := x_ix_some hi
  exact lt_iast hd hs hv kk
theorem lk_last {q : Nat × Nat} {k : Nat} {r : Option Nat} {i : Int32} {x : Int64} (hd : decode μ.2.1 pc = .ok (.lastore, 1)) (hx : x_ar σ 1 r = some q) (hi : x_ix q.2 i = some k) (kk : Lk G μ d (pc + 1) lo st (hv_setJ σ q.1 k x) mc ms X) : Lk G μ d pc lo (vJ x :: vI i :: vR r :: st) σ mc ms X := by
  obtain ⟨rfl, hs⟩ := x_ar_some hx
  obtain ⟨hv, rfl⟩ := x_ix_some hi
  exact lt_last hd hs hv kk
theorem lk_cast {q : Nat × Nat} {k : Nat} {r : Option Nat} {i x : Int32} (hd : decode μ.2.1 pc = .ok (.castore, 1)) (hx : x_ar σ 2 r = some q) (hi : x_ix q.2 i = some k) (kk : Lk G μ d (pc + 1) lo st (hv_setI σ q.1 k (vp_nar .char x)) mc ms X) : Lk G μ d pc lo (vI x :: vI i :: vR r :: st) σ mc ms X := by
  obtain ⟨rfl, hs⟩ := x_ar_some hx
  obtain ⟨hv, rfl⟩ := x_ix_some hi
  exact lt_cast hd hs hv rfl kk
theorem lk_zast {q : Nat × Nat} {k : Nat} {r : Option Nat} {i x : Int32} (hd : decode μ.2.1 pc = .ok (.bastore, 1)) (hx : x_ar σ 3 r = some q) (hi : x_ix q.2 i = some k) (kk : Lk G μ d (pc + 1) lo st (hv_setI σ q.1 k (vp_nar .boolean x)) mc ms X) : Lk G μ d pc lo (vI x :: vI i :: vR r :: st) σ mc ms X := by
  obtain ⟨rfl, hs⟩ := x_ar_some hx
  obtain ⟨hv, rfl⟩ := x_ix_some hi
  exact lt_zast hd hs hv rfl kk
theorem lk_aast {t ci a2 : Nat} {C : String} {T : u_T} {N : Nat} {q : Nat × Nat} {k : Nat} {r r2 : Option Nat} {i : Int32} (hd : decode μ.2.1 pc = .ok (.aastore, 1)) (hx : x_ar σ t r = some q) (hi : x_ix q.2 i = some k) (hv : x_ob σ ci r2 = some a2) (hT : lt_aty t = .object C) (ht : t ∈ lt_codes) (hci : ci < 1000) (hcl : lt_cl[ci]? = some (C, T, N)) (kk : Lk G μ d (pc + 1) lo st (hv_setR σ q.1 k (some a2)) mc ms X) : Lk G μ d pc lo (vR r2 :: vI i :: vR r :: st) σ mc ms X := by
  obtain ⟨rfl, hs⟩ := x_ar_some hx
  obtain ⟨hvi, rfl⟩ := x_ix_some hi
  obtain ⟨rfl, hs2⟩ := x_ob_some hv
  exact lt_aast hd hs ht hT hs2 hci hcl hvi kk
theorem lk_alen {t : Nat} {q : Nat × Nat} {r : Option Nat} (hd : decode μ.2.1 pc = .ok (.arraylength, 1)) (hx : x_ar σ t r = some q) (ht : t ∈ lt_codes) (kk : Lk G μ d (pc + 1) lo (vI (nI q.2) :: st) σ mc ms X) : Lk G μ d pc lo (vR r :: st) σ mc ms X := by
  obtain ⟨rfl, hs⟩ := x_ar_some hx
  exact lt_alen hd hs ht kk
/-- an int array that is only read -/
def x_ro (σ : hv_S) (r : Option Nat) : Option (Nat × Nat) := match r with
  | none => none
  | some a => match hv_sh σ a with
    | none => none
    | some x => if x.1 = 2000 then some (a, x.2) else none
theorem x_ro_some {σ : hv_S} {q : Nat × Nat} {r : Option Nat} (h : x_ro σ r = some q) : r = some q.1 ∧ hv_sh σ q.1 = some (2000, q.2) := by
  unfold x_ro at h
  split at h
  · cases h
  · next b =>
    split at h
    · cases h
    · next x hx =>
      split at h
      · next hxt =>
        cases h
        refine ⟨rfl, ?_⟩
        rw [hx, ← hxt]
      · cases h
theorem lk_roald {q : Nat × Nat} {k : Nat} {r : Option Nat} {i : Int32} (hd : decode μ.2.1 pc = .ok (.iaload, 1)) (hx : x_ro σ r = some q) (hi : x_ix q.2 i = some k) (kk : Lk G μ d (pc + 1) lo (vI (hv_I σ q.1 k) :: st) σ mc ms X) : Lk G μ d pc lo (vI i :: vR r :: st) σ mc ms X := by
  obtain ⟨rfl, hs⟩ := x_ro_some hx
  obtain ⟨hv, rfl⟩ := x_ix_some hi
  exact lt_roald hd hs hv kk
theorem lk_rolen {q : Nat × Nat} {r : Option Nat} (hd : decode μ.2.1 pc = .ok (.arraylength, 1)) (hx : x_ro σ r = some q) (kk : Lk G μ d (pc + 1) lo (vI (nI q.2) :: st) σ mc ms X) : Lk G μ d pc lo (vR r :: st) σ mc ms X := by
  obtain ⟨rfl, hs⟩ := x_ro_some hx
  exact lt_rolen hd hs kk
theorem lk_new {ci idx : Nat} {C : String} {T : u_T} {N : Nat} (hd : decode μ.2.1 pc = .ok (.new idx, 3)) (hci : ci < 1000) (hcl : lt_cl[ci]? = some (C, T, N)) (hl1 : Cond.classLink μ.1.cls idx C ∈ lt_T) (hl2 : Cond.instantiable C N ∈ lt_T) (hl3 : Cond.initialized C ∈ lt_T)
    (hdef : ∀ j, j < N → defaultValue (lt_ty ci j) = hv_fv (lt_ty ci j) hv_zero 0 0) (kk : hv_sh σ (hv_n σ) = none → Lk G μ d (pc + 3) lo (vR (some (hv_n σ)) :: st) (hv_new σ (ci, 0)) mc ms X) : Lk G μ d pc lo st σ (mc + 1) (ms + N) X := lt_new hd hci hcl hl1 hl2 hl3 hdef kk
theorem lk_newarray {t : Nat} {atype : ArrayType} {n : Int32} {N : Nat} (hd : decode μ.2.1 pc = .ok (.newarray atype, 2)) (hw : Cond.arrayClass (newarray.typeOf atype) ∈ lt_T) (ht : t ∈ lt_codes) (hty : lt_aty t = newarray.typeOf atype) (hn : ¬ n < 0) (hN : n.toNatClampNeg = N) (hbytes : N * componentBytes (newarray.typeOf atype) ≤ 536870912)
    (hdef : defaultValue (lt_aty t) = hv_fv (lt_aty t) hv_zero 0 0) (kk : hv_sh σ (hv_n σ) = none → Lk G μ d (pc + 2) lo (vR (some (hv_n σ)) :: st) (hv_new σ (1000 + t, N)) mc ms X) : Lk G μ d pc lo (vI n :: st) σ (mc + 1) (ms + N) X := lt_newarray hd hw ht hty hn hN hbytes hdef kk
theorem lk_anew {t idx : Nat} {C : String} {n : Int32} {N : Nat} (hd : decode μ.2.1 pc = .ok (.anewarray idx, 3)) (hcl : Cond.classLink μ.1.cls idx C ∈ lt_T) (ht : t ∈ lt_codes) (hty : lt_aty t = .object C) (hw : Cond.arrayOver (.object C) ∈ lt_N) (hn : ¬ n < 0) (hN : n.toNatClampNeg = N) (hbytes : N * 4 ≤ 536870912)
    (kk : hv_sh σ (hv_n σ) = none → Lk G μ d (pc + 3) lo (vR (some (hv_n σ)) :: st) (hv_new σ (1000 + t, N)) mc ms X) : Lk G μ d pc lo (vI n :: st) σ (mc + 1) (ms + N) X := lt_anew hd hcl ht hty hw hn hN hbytes kk
theorem lk_objInit {idx : Nat} {b : Nat} (hd : decode μ.2.1 pc = .ok (.invokespecial idx, 3)) (hlk : Cond.methodLink μ.1.cls idx Lib.objectInit ∈ lt_T) (hin : Cond.instanceMethod Lib.objectInit ∈ lt_T) (hco : Cond.code Lib.objectInit ⟨#[0xb1]⟩ 1 none ∈ lt_T) (hdd : 1 ≤ d) (hcat : (st.map mcat).sum ≤ 8) (kk : Lk G μ d (pc + 3) lo st σ mc ms X) : Lk G μ d pc lo (vR (some b) :: st) σ mc ms X := by
  refine lt_objInit hd hlk hin hco hdd ?_ kk
  rw [List.map_map]
  rw [show (fun v : Value => v.category) ∘ mv = mcat from funext mv_cat]
  exact hcat
end LKI
/-- a contract over mini values: the answer and the view behind it are told -/
def Ck (G : lt_G) (μ : lt_M) (d mc ms : Nat) (as : List mV) (σ : hv_S) (r : Option mV) (σ' : hv_S) : Prop :=
  Ct G μ d mc ms (as.map mv) σ (fun r' s => r' = r.map mv ∧ s = σ')
/-- the points where a method returns r with the view σ' -/
def lk_end (μ : lt_M) (r : Option mV) (σ' : hv_S) : Nat → List (Nat × mV) → List mV → hv_S → Nat → Nat → Prop := fun pc _ st σ _ _ => σ = σ' ∧
  ((decode μ.2.1 pc = .ok (.return_, 1) ∧ μ.2.2.2 = none ∧ st = [] ∧ r = none) ∨
  (∃ (v : Int32) (ty : FieldType), decode μ.2.1 pc = .ok (.ireturn, 1) ∧ μ.2.2.2 = some ty ∧ narrow ty (.int v) = .int v ∧ st = [vI v] ∧ r = some (vI v)) ∨
  (∃ v : Int64, decode μ.2.1 pc = .ok (.lreturn, 1) ∧ μ.2.2.2 = some .long ∧ st = [vJ v] ∧ r = some (vJ v)) ∨
  (∃ (v : Option Nat) (n : String), decode μ.2.1 pc = .ok (.areturn, 1) ∧ μ.2.2.2 = some (.object n) ∧ st = [vR v] ∧ r = some (vR v)))
theorem lk_lg_sl : ∀ (as : List mV), (lg_sl (as.map mv)).length = (as.map mcat).sum
  | [] => rfl
  | v :: as => by
    have h := lk_lg_sl as
    unfold lg_sl at h ⊢
    rw [List.map_cons, List.flatMap_cons, List.length_append, h, List.map_cons, List.sum_cons, mv_cat]
    match v with
    | .inl x => rfl
    | .inr (.inl x) => rfl
    | .inr (.inr r) => rfl
def mk_args : Nat → List mV → List (Nat × mV)
  | _, [] => []
  | i, v :: vs => (i, v) :: mk_args (if mcat v = 2 then i + 2 else i + 1) vs
theorem mk_args_map : ∀ (as : List mV) (i : Nat), lv_args i (as.map mv) = (mk_args i as).map cv
  | [], i => rfl
  | v :: as, i => by
    show (i, mv v) :: lv_args (if (mv v).category = 2 then i + 2 else i + 1) (as.map mv) = (i, mv v) :: (mk_args (if mcat v = 2 then i + 2 else i + 1) as).map cv
    rw [mv_cat, mk_args_map]
theorem Ck.of {G : lt_G} {μ : lt_M} {d mc ms : Nat} {as : List mV} {σ σ' : hv_S} {r : Option mV} (hy : plainName μ.1.cls = true) (hlen : (as.map mcat).sum ≤ μ.2.2.1) (h : Lk G μ d 0 (mk_args 0 as) [] σ mc ms (lk_end μ r σ')) : Ck G μ d mc ms as σ r σ' := by
  refine Ct.of hy (by rw [lk_lg_sl]; exact hlen) ?_
  rw [mk_args_map]
  refine Lt.trans h (fun pc' lo' st' σ1 mc' ms' hx => Lt.stop ?_)
  obtain ⟨lo2, st2, rfl, rfl, rfl, hx⟩ := hx
  rcases hx with ⟨h1, h2, rfl, rfl⟩ | ⟨v, ty, h1, h2, h3, rfl, rfl⟩ | ⟨v, h1, h2, rfl, rfl⟩ | ⟨v, n, h1, h2, rfl, rfl⟩
  · exact Or.inl ⟨h1, h2, rfl, rfl, rfl⟩
  · exact Or.inr (Or.inl ⟨v, ty, h1, h2, h3, rfl, rfl, rfl⟩)
  · exact Or.inr (Or.inr (Or.inl ⟨v, h1, h2, rfl, rfl, rfl⟩))
  · exact Or.inr (Or.inr (Or.inr ⟨v, _, h1, h2, Or.inl ⟨n, rfl⟩, rfl, rfl, rfl⟩))
section LKJ
variable {G : lt_G} {μ μ' : lt_M} {d d' pc : Nat} {lo lo' : List (Nat × mV)} {st0 st as : List mV} {σ σ1 : hv_S} {mc ms mc' ms' : Nat} {X : Nat → List (Nat × mV) → List mV → hv_S → Nat → Nat → Prop} {r : Option mV}
theorem mk_cats (l : List mV) : ((l.map mv).map fun v => v.category) = l.map mcat := by
  rw [List.map_map, show (fun v : Value => v.category) ∘ mv = mcat from funext mv_cat]
theorem mk_rest (r : Option mV) (l : List mV) : (r.map mv).toList ++ l.map mv = (r.toList ++ l).map mv := by
  cases r <;> simp
theorem lk_callV {ci b idx : Nat} {rr : Option Nat} {C : String} {T : u_T} {N : Nat} (hd : decode μ.2.1 pc = .ok (.invokevirtual idx, 3)) (hx : x_ob σ ci rr = some b) (hct : Ck G μ' d' mc' ms' (vR (some b) :: as) σ r σ1) (hdd : d' + 1 ≤ d) (hst : st0 = as.reverse ++ vR rr :: st) (hM : lt_M0 μ' as.length) (hlk : lt_lkM μ.1.cls idx μ'.1) (hin : Cond.instanceMethod μ'.1 ∈ lt_T) (hse : Cond.selects C μ'.1 μ'.1 ∈ lt_T)
    (hci : ci < 1000) (hcl : lt_cl[ci]? = some (C, T, N)) (hcat : (st.map mcat).sum ≤ 8) (kk : Lk G μ d (pc + 3) lo (r.toList ++ st) σ1 mc ms X) : Lk G μ d pc lo st0 σ (mc + mc') (ms + ms') X := by
  obtain ⟨rfl, hs⟩ := x_ob_some hx
  refine lt_callV (as := as.map mv) (rest := st.map mv) hd hct hdd (by rw [hst]; simp [mv, va_rf]) (by rw [List.length_map]; exact hM) hlk hin hse hs hci hcl (by rw [mk_cats]; exact hcat) (fun r' s hq => ?_)
  obtain ⟨rfl, rfl⟩ := hq
  rw [mk_rest]
  exact kk
theorem lk_callS {idx : Nat} (hd : decode μ.2.1 pc = .ok (.invokestatic idx, 3)) (hct : Ck G μ' d' mc' ms' as σ r σ1) (hdd : d' + 1 ≤ d) (hst : st0 = as.reverse ++ st) (hM : lt_M0 μ' as.length) (hlk : lt_lkM μ.1.cls idx μ'.1) (hstc : Cond.static μ'.1 ∈ lt_T)
    (hcat : (st.map mcat).sum ≤ 8) (kk : Lk G μ d (pc + 3) lo (r.toList ++ st) σ1 mc ms X) : Lk G μ d pc lo st0 σ (mc + mc') (ms + ms') X := by
  refine lt_callS (as := as.map mv) (rest := st.map mv) hd hct hdd (by rw [hst]; simp) (by rw [List.length_map]; exact hM) hlk hstc (by rw [mk_cats]; exact hcat) (fun r' s hq => ?_)
  obtain ⟨rfl, rfl⟩ := hq
  rw [mk_rest]
  exact kk
theorem lk_callI {y : MethodName} {cc : ByteArray} {nL b idx : Nat} (hd : decode μ.2.1 pc = .ok (.invokespecial idx, 3)) (hct : Ck G (y, cc, nL, none) d' mc' ms' (vR (some b) :: as) σ r σ1) (hdd : d' + 1 ≤ d) (hst : st0 = as.reverse ++ vR (some b) :: st) (hM : lt_M0 (y, cc, nL, none) as.length) (hlk : lt_lkM μ.1.cls idx y) (hin : Cond.instanceMethod y ∈ lt_T) (hname : y.name = "<init>")
    (hcat : (st.map mcat).sum ≤ 8) (kk : Lk G μ d (pc + 3) lo (r.toList ++ st) σ1 mc ms X) : Lk G μ d pc lo st0 σ (mc + mc') (ms + ms') X := by
  refine lt_callI (as := as.map mv) (rest := st.map mv) hd hct hdd (by rw [hst]; simp [mv, va_rf]) (by rw [List.length_map]; exact hM) hlk hin hname (by rw [mk_cats]; exact hcat) (fun r' s hq => ?_)
  obtain ⟨rfl, rfl⟩ := hq
  rw [mk_rest]
  exact kk
end LKJ
