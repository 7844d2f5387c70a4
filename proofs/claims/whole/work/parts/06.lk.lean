/-! MINI VALUES: an int, a long, a reference or null. Lk is Lt over them: all that a step looks at is then in constructors. -/
abbrev mV : Type := Int32 ⊕ Int64 ⊕ Option Nat
abbrev vI (x : Int32) : mV := .inl x
abbrev vJ (x : Int64) : mV := .inr (.inl x)
abbrev vR (r : Option Nat) : mV := .inr (.inr r)
def mv (v : mV) : Value := match v with
  | .inl x => .int x
  | .inr (.inl x) => .long x
  | .inr (.inr r) => va_rf r
def mcat (v : mV) : Nat := match v with
  | .inr (.inl _) => 2
  | _ => 1
theorem mv_cat (v : mV) : (mv v).category = mcat v := by
  match v with
  | .inl x => rfl
  | .inr (.inl x) => rfl
  | .inr (.inr none) => rfl
  | .inr (.inr (some a)) => rfl
def cv (q : Nat × mV) : Nat × Value := (q.1, mv q.2)
def mk_ld (lo : List (Nat × mV)) (i : Nat) : Option mV := match lo with
  | [] => none
  | q :: r => if q.1 = i then some q.2 else mk_ld r i
def mk_s1 (i : Nat) (v : mV) (lo : List (Nat × mV)) : List (Nat × mV) := (i, v) :: lo.filter (fun q => !(q.1 == i) && !(q.1 + 1 == i && mcat q.2 == 2))
def mk_s2 (i : Nat) (v : mV) (lo : List (Nat × mV)) : List (Nat × mV) := (i, v) :: lo.filter (fun q => !(q.1 == i) && (!(q.1 == i + 1) && !(q.1 + 1 == i && mcat q.2 == 2)))
theorem mk_ld_map : ∀ {lo : List (Nat × mV)} {i : Nat} {v : mV}, mk_ld lo i = some v → ms_ld (lo.map cv) i = some (mv v)
  | [], i, v, h => by simp [mk_ld] at h
  | q :: r, i, v, h => by
    show (if q.1 = i then some (mv q.2) else ms_ld (r.map cv) i) = some (mv v)
    unfold mk_ld at h
    by_cases hq : q.1 = i
    · rw [if_pos hq] at h ⊢
      cases h; rfl
    · rw [if_neg hq] at h ⊢
      exact mk_ld_map h
theorem mk_s1_map (i : Nat) (v : mV) (lo : List (Nat × mV)) : ms_s1 i (mv v) (lo.map cv) = (mk_s1 i v lo).map cv := by
  unfold ms_s1 mk_s1
  rw [List.map_cons, List.filter_map]
  have h : ((fun q : Nat × Value => !(q.1 == i) && !(q.1 + 1 == i && q.2.category == 2)) ∘ cv) = (fun q : Nat × mV => !(q.1 == i) && !(q.1 + 1 == i && mcat q.2 == 2)) := by
    funext q
    simp only [Function.comp, cv, mv_cat]
  rw [h]
  rfl
theorem mk_s2_map (i : Nat) (v : mV) (lo : List (Nat × mV)) : ms_s2 i (mv v) (lo.map cv) = (mk_s2 i v lo).map cv := by
  unfold ms_s2 mk_s2
  rw [List.map_cons, List.filter_map]
  have h : ((fun q : Nat × Value => !(q.1 == i) && (!(q.1 == i + 1) && !(q.1 + 1 == i && q.2.category == 2))) ∘ cv) = (fun q : Nat × mV => !(q.1 == i) && (!(q.1 == i + 1) && !(q.1 + 1 == i && mcat q.2 == 2))) := by
    funext q
    simp only [Function.comp, cv, mv_cat]
  rw [h]
  rfl
def Lk (G : lt_G) (μ : lt_M) (d pc : Nat) (lo : List (Nat × mV)) (st : List mV) (σ : hv_S) (mc ms : Nat) (X : Nat → List (Nat × mV) → List mV → hv_S → Nat → Nat → Prop) : Prop :=
  Lt G μ d pc (lo.map cv) (st.map mv) σ mc ms (fun pc' lo' st' σ' mc' ms' => ∃ (lo2 : List (Nat × mV)) (st2 : List mV), lo' = lo2.map cv ∧ st' = st2.map mv ∧ X pc' lo2 st2 σ' mc' ms')
def mk_sel (lo : List (Nat × mV)) : List Nat → Option (List (Nat × mV))
  | [] => some []
  | i :: is => match mk_ld lo i, mk_sel lo is with
    | some v, some l => some ((i, v) :: l)
    | _, _ => none
theorem mk_ld_mem : ∀ {lo : List (Nat × mV)} {i : Nat} {v : mV}, mk_ld lo i = some v → (i, v) ∈ lo
  | [], i, v, h => by simp [mk_ld] at h
  | q :: r, i, v, h => by
    unfold mk_ld at h
    by_cases hq : q.1 = i
    · rw [if_pos hq] at h
      cases h; subst hq; exact List.mem_cons_self
    · rw [if_neg hq] at h
      exact List.mem_cons_of_mem _ (mk_ld_mem h)
theorem mk_sel_mem : ∀ {is : List Nat} {lo l : List (Nat × mV)}, mk_sel lo is = some l → ∀ q ∈ l, q ∈ lo
  | [], lo, l, h, q, hq => by cases h; cases hq
  | i :: is, lo, l, h, q, hq => by
    unfold mk_sel at h
    split at h
    · next v l' h1 h2 =>
      cases h
      rcases List.mem_cons.mp hq with rfl | hq
      · exact mk_ld_mem h1
      · exact mk_sel_mem h2 q hq
    · cases h
section LK
variable {G : lt_G} {μ : lt_M} {d pc : Nat} {lo lo' : List (Nat × mV)} {st : List mV} {σ : hv_S} {mc ms : Nat} {X : Nat → List (Nat × mV) → List mV → hv_S → Nat → Nat → Prop}
theorem Lk.stop (h : X pc lo st σ mc ms) : Lk G μ d pc lo st σ mc ms X := Lt.stop ⟨lo, st, rfl, rfl, h⟩
theorem Lk.trans {Y : Nat → List (Nat × mV) → List mV → hv_S → Nat → Nat → Prop} (h : Lk G μ d pc lo st σ mc ms Y) (k : ∀ pc' lo' st' σ' mc' ms', Y pc' lo' st' σ' mc' ms' → Lk G μ d pc' lo' st' σ' mc' ms' X) : Lk G μ d pc lo st σ mc ms X :=
  Lt.trans h (fun pc' lo' st' σ' mc' ms' hy => by
    obtain ⟨lo2, st2, rfl, rfl, hy⟩ := hy
    exact k pc' lo2 st2 σ' mc' ms' hy)
theorem Lk.less {mc' ms' : Nat} (hc : mc' ≤ mc) (hs : ms' ≤ ms) (h : Lk G μ d pc lo st σ mc' ms' X) : Lk G μ d pc lo st σ mc ms X := Lt.less hc hs h
theorem Lk.sel (is : List Nat) (hk : mk_sel lo is = some lo') (h : Lk G μ d pc lo' st σ mc ms X) : Lk G μ d pc lo st σ mc ms X :=
  fun p l e R s m args below meth c hC A hA hY Q hX H locs cells slots ls hl hH h1 h2 => h p l e R s m args below meth c hC A hA hY Q hX H locs cells slots ls
    ⟨hl.1, hl.2.1, fun q hq => by
      obtain ⟨q0, hq0, rfl⟩ := List.mem_map.mp hq
      exact hl.2.2 _ (List.mem_map.mpr ⟨q0, mk_sel_mem hk q0 hq0, rfl⟩)⟩ hH h1 h2
theorem lk_iconst {n : Int} {v : Int32} (hd : decode μ.2.1 pc = .ok (.iconst n, 1)) (hv : Int32.ofInt n = v) (kk : Lk G μ d (pc + 1) lo (vI v :: st) σ mc ms X) : Lk G μ d pc lo (st) σ mc ms X := lt_iconst hd hv kk
theorem lk_bipush {n : Int} {v : Int32} (hd : decode μ.2.1 pc = .ok (.bipush n, 2)) (hv : (Int8.ofInt n).toInt32 = v) (kk : Lk G μ d (pc + 2) lo (vI v :: st) σ mc ms X) : Lk G μ d pc lo (st) σ mc ms X := lt_bipush hd hv kk
theorem lk_sipush {n : Int} {v : Int32} (hd : decode μ.2.1 pc = .ok (.sipush n, 3)) (hv : (Int16.ofInt n).toInt32 = v) (kk : Lk G μ d (pc + 3) lo (vI v :: st) σ mc ms X) : Lk G μ d pc lo (st) σ mc ms X := lt_sipush hd hv kk
theorem lk_lconst {n : Fin 2} {v : Int64} (hd : decode μ.2.1 pc = .ok (.lconst n, 1)) (hv : Int64.ofNat (n : Nat) = v) (kk : Lk G μ d (pc + 1) lo (vJ v :: st) σ mc ms X) : Lk G μ d pc lo (st) σ mc ms X := lt_lconst hd hv kk
theorem lk_null  (hd : decode μ.2.1 pc = .ok (.aconst_null, 1)) (kk : Lk G μ d (pc + 1) lo (vR none :: st) σ mc ms X) : Lk G μ d pc lo (st) σ mc ms X := lt_null hd kk
theorem lk_iload {i : Nat} {x : Int32} (hd : decode μ.2.1 pc = .ok (.iload i, 2)) (hi : mk_ld lo i = some (vI x)) (kk : Lk G μ d (pc + 2) lo (vI x :: st) σ mc ms X) : Lk G μ d pc lo (st) σ mc ms X := lt_iload hd (mk_ld_map hi) kk
theorem lk_iload_n {k : Fin 4} {x : Int32} (hd : decode μ.2.1 pc = .ok (.iload_n k, 1)) (hi : mk_ld lo (k : Nat) = some (vI x)) (kk : Lk G μ d (pc + 1) lo (vI x :: st) σ mc ms X) : Lk G μ d pc lo (st) σ mc ms X := lt_iload_n hd (mk_ld_map hi) kk
theorem lk_lload {i : Nat} {x : Int64} (hd : decode μ.2.1 pc = .ok (.lload i, 2)) (hi : mk_ld lo i = some (vJ x)) (kk : Lk G μ d (pc + 2) lo (vJ x :: st) σ mc ms X) : Lk G μ d pc lo (st) σ mc ms X := lt_lload hd (mk_ld_map hi) kk
theorem lk_lload_n {k : Fin 4} {x : Int64} (hd : decode μ.2.1 pc = .ok (.lload_n k, 1)) (hi : mk_ld lo (k : Nat) = some (vJ x)) (kk : Lk G μ d (pc + 1) lo (vJ x :: st) σ mc ms X) : Lk G μ d pc lo (st) σ mc ms X := lt_lload_n hd (mk_ld_map hi) kk
theorem lk_aload {i : Nat} {r : Option Nat} (hd : decode μ.2.1 pc = .ok (.aload i, 2)) (hi : mk_ld lo i = some (vR r)) (kk : Lk G μ d (pc + 2) lo (vR r :: st) σ mc ms X) : Lk G μ d pc lo st σ mc ms X := by
  have h := mk_ld_map hi
  cases r with
  | none => exact lt_aloadN hd h kk
  | some a => exact lt_aload hd h kk
theorem lk_aload_n {k : Fin 4} {r : Option Nat} (hd : decode μ.2.1 pc = .ok (.aload_n k, 1)) (hi : mk_ld lo (k : Nat) = some (vR r)) (kk : Lk G μ d (pc + 1) lo (vR r :: st) σ mc ms X) : Lk G μ d pc lo st σ mc ms X := by
  have h := mk_ld_map hi
  cases r with
  | none => exact lt_aload_nN hd h kk
  | some a => exact lt_aload_n hd h kk
theorem lk_istore {i : Nat} {x : Int32} (hd : decode μ.2.1 pc = .ok (.istore i, 2)) (hn : i < μ.2.2.1) (hs : mk_s1 i (vI x) lo = lo') (kk : Lk G μ d (pc + 2) lo' (st) σ mc ms X) : Lk G μ d pc lo (vI x :: st) σ mc ms X := by
  subst hs
  exact lt_istore hd hn (mk_s1_map i (vI x) lo) kk
theorem lk_istore_n {k : Fin 4} {x : Int32} (hd : decode μ.2.1 pc = .ok (.istore_n k, 1)) (hn : (k : Nat) < μ.2.2.1) (hs : mk_s1 (k : Nat) (vI x) lo = lo') (kk : Lk G μ d (pc + 1) lo' (st) σ mc ms X) : Lk G μ d pc lo (vI x :: st) σ mc ms X := by
  subst hs
  exact lt_istore_n hd hn (mk_s1_map (k : Nat) (vI x) lo) kk
theorem lk_lstore {i : Nat} {x : Int64} (hd : decode μ.2.1 pc = .ok (.lstore i, 2)) (hn : i + 1 < μ.2.2.1) (hs : mk_s2 i (vJ x) lo = lo') (kk : Lk G μ d (pc + 2) lo' (st) σ mc ms X) : Lk G μ d pc lo (vJ x :: st) σ mc ms X := by
  subst hs
  exact lt_lstore hd hn (mk_s2_map i (vJ x) lo) kk
theorem lk_lstore_n {k : Fin 4} {x : Int64} (hd : decode μ.2.1 pc = .ok (.lstore_n k, 1)) (hn : (k : Nat) + 1 < μ.2.2.1) (hs : mk_s2 (k : Nat) (vJ x) lo = lo') (kk : Lk G μ d (pc + 1) lo' (st) σ mc ms X) : Lk G μ d pc lo (vJ x :: st) σ mc ms X := by
  subst hs
  exact lt_lstore_n hd hn (mk_s2_map (k : Nat) (vJ x) lo) kk
theorem lk_astore {i : Nat} {r : Option Nat} (hd : decode μ.2.1 pc = .ok (.astore i, 2)) (hn : i < μ.2.2.1) (hs : mk_s1 i (vR r) lo = lo') (kk : Lk G μ d (pc + 2) lo' st σ mc ms X) : Lk G μ d pc lo (vR r :: st) σ mc ms X := by
  subst hs
  have h := mk_s1_map i (vR r) lo
  cases r with
  | none => exact lt_astoreN hd hn h kk
  | some a => exact lt_astore hd hn h kk
theorem lk_astore_n {k : Fin 4} {r : Option Nat} (hd : decode μ.2.1 pc = .ok (.astore_n k, 1)) (hn : (k : Nat) < μ.2.2.1) (hs : mk_s1 (k : Nat) (vR r) lo = lo') (kk : Lk G μ d (pc + 1) lo' st σ mc ms X) : Lk G μ d pc lo (vR r :: st) σ mc ms X := by
  subst hs
  have h := mk_s1_map (k : Nat) (vR r) lo
  cases r with
  | none => exact lt_astore_nN hd hn h kk
  | some a => exact lt_astore_n hd hn h kk
theorem lk_iinc {i : Nat} {n : Int} {x v : Int32} (hd : decode μ.2.1 pc = .ok (.iinc i n, 3)) (hi : mk_ld lo i = some (vI x)) (hv : x + Int32.ofInt n = v) (hn : i < μ.2.2.1) (hs : mk_s1 i (vI v) lo = lo') (kk : Lk G μ d (pc + 3) lo' st σ mc ms X) : Lk G μ d pc lo st σ mc ms X := by
  subst hs
  exact lt_iinc hd (mk_ld_map hi) hv hn (mk_s1_map i (vI v) lo) kk
theorem lk_iadd {x y : Int32} (hd : decode μ.2.1 pc = .ok (.iadd, 1)) (kk : Lk G μ d (pc + 1) lo (vI (x + y) :: st) σ mc ms X) : Lk G μ d pc lo (vI y :: vI x :: st) σ mc ms X := lt_iadd hd kk
theorem lk_isub {x y : Int32} (hd : decode μ.2.1 pc = .ok (.isub, 1)) (kk : Lk G μ d (pc + 1) lo (vI (x - y) :: st) σ mc ms X) : Lk G μ d pc lo (vI y :: vI x :: st) σ mc ms X := lt_isub hd kk
theorem lk_imul {x y : Int32} (hd : decode μ.2.1 pc = .ok (.imul, 1)) (kk : Lk G μ d (pc + 1) lo (vI (x * y) :: st) σ mc ms X) : Lk G μ d pc lo (vI y :: vI x :: st) σ mc ms X := lt_imul hd kk
theorem lk_iand {x y : Int32} (hd : decode μ.2.1 pc = .ok (.iand, 1)) (kk : Lk G μ d (pc + 1) lo (vI (x &&& y) :: st) σ mc ms X) : Lk G μ d pc lo (vI y :: vI x :: st) σ mc ms X := lt_iand hd kk
theorem lk_ior {x y : Int32} (hd : decode μ.2.1 pc = .ok (.ior, 1)) (kk : Lk G μ d (pc + 1) lo (vI (x ||| y) :: st) σ mc ms X) : Lk G μ d pc lo (vI y :: vI x :: st) σ mc ms X := lt_ior hd kk
theorem lk_ixor {x y : Int32} (hd : decode μ.2.1 pc = .ok (.ixor, 1)) (kk : Lk G μ d (pc + 1) lo (vI (x ^^^ y) :: st) σ mc ms X) : Lk G μ d pc lo (vI y :: vI x :: st) σ mc ms X := lt_ixor hd kk
theorem lk_ishl {x y : Int32} (hd : decode μ.2.1 pc = .ok (.ishl, 1)) (kk : Lk G μ d (pc + 1) lo (vI (x <<< (y &&& 31)) :: st) σ mc ms X) : Lk G μ d pc lo (vI y :: vI x :: st) σ mc ms X := lt_ishl hd kk
theorem lk_ishr {x y : Int32} (hd : decode μ.2.1 pc = .ok (.ishr, 1)) (kk : Lk G μ d (pc + 1) lo (vI (x >>> (y &&& 31)) :: st) σ mc ms X) : Lk G μ d pc lo (vI y :: vI x :: st) σ mc ms X := lt_ishr hd kk
theorem lk_ladd {x y : Int64} (hd : decode μ.2.1 pc = .ok (.ladd, 1)) (kk : Lk G μ d (pc + 1) lo (vJ (x + y) :: st) σ mc ms X) : Lk G μ d pc lo (vJ y :: vJ x :: st) σ mc ms X := lt_ladd hd kk
theorem lk_lsub {x y : Int64} (hd : decode μ.2.1 pc = .ok (.lsub, 1)) (kk : Lk G μ d (pc + 1) lo (vJ (x - y) :: st) σ mc ms X) : Lk G μ d pc lo (vJ y :: vJ x :: st) σ mc ms X := lt_lsub hd kk
theorem lk_lmul {x y : Int64} (hd : decode μ.2.1 pc = .ok (.lmul, 1)) (kk : Lk G μ d (pc + 1) lo (vJ (x * y) :: st) σ mc ms X) : Lk G μ d pc lo (vJ y :: vJ x :: st) σ mc ms X := lt_lmul hd kk
theorem lk_land {x y : Int64} (hd : decode μ.2.1 pc = .ok (.land, 1)) (kk : Lk G μ d (pc + 1) lo (vJ (x &&& y) :: st) σ mc ms X) : Lk G μ d pc lo (vJ y :: vJ x :: st) σ mc ms X := lt_land hd kk
theorem lk_lor {x y : Int64} (hd : decode μ.2.1 pc = .ok (.lor, 1)) (kk : Lk G μ d (pc + 1) lo (vJ (x ||| y) :: st) σ mc ms X) : Lk G μ d pc lo (vJ y :: vJ x :: st) σ mc ms X := lt_lor hd kk
theorem lk_lxor {x y : Int64} (hd : decode μ.2.1 pc = .ok (.lxor, 1)) (kk : Lk G μ d (pc + 1) lo (vJ (x ^^^ y) :: st) σ mc ms X) : Lk G μ d pc lo (vJ y :: vJ x :: st) σ mc ms X := lt_lxor hd kk
theorem lk_ineg {x : Int32} (hd : decode μ.2.1 pc = .ok (.ineg, 1)) (kk : Lk G μ d (pc + 1) lo (vI (-x) :: st) σ mc ms X) : Lk G μ d pc lo (vI x :: st) σ mc ms X := lt_ineg hd kk
theorem lk_iushr {x y : Int32} (hd : decode μ.2.1 pc = .ok (.iushr, 1)) (kk : Lk G μ d (pc + 1) lo (vI (x.toUInt32 >>> (y.toUInt32 &&& Int32.toUInt32 31)).toInt32 :: st) σ mc ms X) : Lk G μ d pc lo (vI y :: vI x :: st) σ mc ms X := lt_iushr hd kk
theorem lk_lushr {x : Int64} {y : Int32} (hd : decode μ.2.1 pc = .ok (.lushr, 1)) (kk : Lk G μ d (pc + 1) lo (vJ (x.toUInt64 >>> (y.toInt64.toUInt64 &&& Int64.toUInt64 63)).toInt64 :: st) σ mc ms X) : Lk G μ d pc lo (vI y :: vJ x :: st) σ mc ms X := lt_lushr hd kk
theorem lk_lshl {x : Int64} {y : Int32} (hd : decode μ.2.1 pc = .ok (.lshl, 1)) (kk : Lk G μ d (pc + 1) lo (vJ (x <<< (y.toInt64 &&& 63)) :: st) σ mc ms X) : Lk G μ d pc lo (vI y :: vJ x :: st) σ mc ms X := lt_lshl hd kk
theorem lk_i2l {x : Int32} (hd : decode μ.2.1 pc = .ok (.i2l, 1)) (kk : Lk G μ d (pc + 1) lo (vJ x.toInt64 :: st) σ mc ms X) : Lk G μ d pc lo (vI x :: st) σ mc ms X := lt_i2l hd kk
theorem lk_l2i {x : Int64} (hd : decode μ.2.1 pc = .ok (.l2i, 1)) (kk : Lk G μ d (pc + 1) lo (vI x.toInt32 :: st) σ mc ms X) : Lk G μ d pc lo (vJ x :: st) σ mc ms X := lt_l2i hd kk
theorem lk_i2c {x : Int32} (hd : decode μ.2.1 pc = .ok (.i2c, 1)) (kk : Lk G μ d (pc + 1) lo (vI (x.toUInt32 % 65536).toInt32 :: st) σ mc ms X) : Lk G μ d pc lo (vI x :: st) σ mc ms X := lt_i2c hd kk
theorem lk_lcmp {x y : Int64} (hd : decode μ.2.1 pc = .ok (.lcmp, 1)) (kk : Lk G μ d (pc + 1) lo (vI (lg_cmp x y) :: st) σ mc ms X) : Lk G μ d pc lo (vJ y :: vJ x :: st) σ mc ms X := lt_lcmp hd kk
theorem lk_dup {a : mV} (hd : decode μ.2.1 pc = .ok (.dup, 1)) (ha : mcat a = 1) (kk : Lk G μ d (pc + 1) lo (a :: a :: st) σ mc ms X) : Lk G μ d pc lo (a :: st) σ mc ms X := lt_dup hd ((mv_cat a).trans ha) kk
theorem lk_pop {a : mV} (hd : decode μ.2.1 pc = .ok (.pop, 1)) (ha : mcat a = 1) (kk : Lk G μ d (pc + 1) lo (st) σ mc ms X) : Lk G μ d pc lo (a :: st) σ mc ms X := lt_pop hd ((mv_cat a).trans ha) kk
theorem lk_dup_x1 {a b : mV} (hd : decode μ.2.1 pc = .ok (.dup_x1, 1)) (ha : mcat a = 1) (hb : mcat b = 1) (kk : Lk G μ d (pc + 1) lo (a :: b :: a :: st) σ mc ms X) : Lk G μ d pc lo (a :: b :: st) σ mc ms X := lt_dup_x1 hd ((mv_cat a).trans ha) ((mv_cat b).trans hb) kk
theorem lk_dup_x2 {a b c : mV} (hd : decode μ.2.1 pc = .ok (.dup_x2, 1)) (ha : mcat a = 1) (hb : mcat b = 1) (hc : mcat c = 1) (kk : Lk G μ d (pc + 1) lo (a :: b :: c :: a :: st) σ mc ms X) : Lk G μ d pc lo (a :: b :: c :: st) σ mc ms X := lt_dup_x2 hd ((mv_cat a).trans ha) ((mv_cat b).trans hb) ((mv_cat c).trans hc) kk
theorem lk_dup2_11 {a b : mV} (hd : decode μ.2.1 pc = .ok (.dup2, 1)) (ha : mcat a = 1) (hb : mcat b = 1) (kk : Lk G μ d (pc + 1) lo (a :: b :: a :: b :: st) σ mc ms X) : Lk G μ d pc lo (a :: b :: st) σ mc ms X := lt_dup2_11 hd ((mv_cat a).trans ha) ((mv_cat b).trans hb) kk
theorem lk_if_eq {x : Int32} {off : Int} {tgt : Nat} (hd : decode μ.2.1 pc = .ok (.ifCond .eq off, 3)) (ht : (pc : Int) + off = (tgt : Int)) (kt : x = 0 → Lk G μ d tgt lo st σ mc ms X) (kf : ¬ x = 0 → Lk G μ d (pc + 3) lo st σ mc ms X) : Lk G μ d pc lo (vI x :: st) σ mc ms X := lt_if_eq hd ht kt kf
theorem lk_icmp_eq {x y : Int32} {off : Int} {tgt : Nat} (hd : decode μ.2.1 pc = .ok (.if_icmp .eq off, 3)) (ht : (pc : Int) + off = (tgt : Int)) (kt : x = y → Lk G μ d tgt lo st σ mc ms X) (kf : ¬ x = y → Lk G μ d (pc + 3) lo st σ mc ms X) : Lk G μ d pc lo (vI y :: vI x :: st) σ mc ms X := lt_icmp_eq hd ht kt kf
theorem lk_if_ne {x : Int32} {off : Int} {tgt : Nat} (hd : decode μ.2.1 pc = .ok (.ifCond .ne off, 3)) (ht : (pc : Int) + off = (tgt : Int)) (kt : ¬ x = 0 → Lk G μ d tgt lo st σ mc ms X) (kf : x = 0 → Lk G μ d (pc + 3) lo st σ mc ms X) : Lk G μ d pc lo (vI x :: st) σ mc ms X := lt_if_ne hd ht kt kf
theorem lk_icmp_ne {x y : Int32} {off : Int} {tgt : Nat} (hd : decode μ.2.1 pc = .ok (.if_icmp .ne off, 3)) (ht : (pc : Int) + off = (tgt : Int)) (kt : ¬ x = y → Lk G μ d tgt lo st σ mc ms X) (kf : x = y → Lk G μ d (pc + 3) lo st σ mc ms X) : Lk G μ d pc lo (vI y :: vI x :: st) σ mc ms X := lt_icmp_ne hd ht kt kf
theorem lk_if_lt {x : Int32} {off : Int} {tgt : Nat} (hd : decode μ.2.1 pc = .ok (.ifCond .lt off, 3)) (ht : (pc : Int) + off = (tgt : Int)) (kt : x < 0 → Lk G μ d tgt lo st σ mc ms X) (kf : ¬ x < 0 → Lk G μ d (pc + 3) lo st σ mc ms X) : Lk G μ d pc lo (vI x :: st) σ mc ms X := lt_if_lt hd ht kt kf
theorem lk_icmp_lt {x y : Int32} {off : Int} {tgt : Nat} (hd : decode μ.2.1 pc = .ok (.if_icmp .lt off, 3)) (ht : (pc : Int) + off = (tgt : Int)) (kt : x < y → Lk G μ d tgt lo st σ mc ms X) (kf : ¬ x < y → Lk G μ d (pc + 3) lo st σ mc ms X) : Lk G μ d pc lo (vI y :: vI x :: st) σ mc ms X := lt_icmp_lt hd ht kt kf
theorem lk_if_ge {x : Int32} {off : Int} {tgt : Nat} (hd : decode μ.2.1 pc = .ok (.ifCond .ge off, 3)) (ht : (pc : Int) + off = (tgt : Int)) (kt : 0 ≤ x → Lk G μ d tgt lo st σ mc ms X) (kf : ¬ 0 ≤ x → Lk G μ d (pc + 3) lo st σ mc ms X) : Lk G μ d pc lo (vI x :: st) σ mc ms X := lt_if_ge hd ht kt kf
theorem lk_icmp_ge {x y : Int32} {off : Int} {tgt : Nat} (hd : decode μ.2.1 pc = .ok (.if_icmp .ge off, 3)) (ht : (pc : Int) + off = (tgt : Int)) (kt : y ≤ x → Lk G μ d tgt lo st σ mc ms X) (kf : ¬ y ≤ x → Lk G μ d (pc + 3) lo st σ mc ms X) : Lk G μ d pc lo (vI y :: vI x :: st) σ mc ms X := lt_icmp_ge hd ht kt kf
theorem lk_if_gt {x : Int32} {off : Int} {tgt : Nat} (hd : decode μ.2.1 pc = .ok (.ifCond .gt off, 3)) (ht : (pc : Int) + off = (tgt : Int)) (kt : 0 < x → Lk G μ d tgt lo st σ mc ms X) (kf : ¬ 0 < x → Lk G μ d (pc + 3) lo st σ mc ms X) : Lk G μ d pc lo (vI x :: st) σ mc ms X := lt_if_gt hd ht kt kf
theorem lk_icmp_gt {x y : Int32} {off : Int} {tgt : Nat} (hd : decode μ.2.1 pc = .ok (.if_icmp .gt off, 3)) (ht : (pc : Int) + off = (tgt : Int)) (kt : y < x → Lk G μ d tgt lo st σ mc ms X) (kf : ¬ y < x → Lk G μ d (pc + 3) lo st σ mc ms X) : Lk G μ d pc lo (vI y :: vI x :: st) σ mc ms X := lt_icmp_gt hd ht kt kf
theorem lk_if_le {x : Int32} {off : Int} {tgt : Nat} (hd : decode μ.2.1 pc = .ok (.ifCond .le off, 3)) (ht : (pc : Int) + off = (tgt : Int)) (kt : x ≤ 0 → Lk G μ d tgt lo st σ mc ms X) (kf : ¬ x ≤ 0 → Lk G μ d (pc + 3) lo st σ mc ms X) : Lk G μ d pc lo (vI x :: st) σ mc ms X := lt_if_le hd ht kt kf
theorem lk_icmp_le {x y : Int32} {off : Int} {tgt : Nat} (hd : decode μ.2.1 pc = .ok (.if_icmp .le off, 3)) (ht : (pc : Int) + off = (tgt : Int)) (kt : x ≤ y → Lk G μ d tgt lo st σ mc ms X) (kf : ¬ x ≤ y → Lk G μ d (pc + 3) lo st σ mc ms X) : Lk G μ d pc lo (vI y :: vI x :: st) σ mc ms X := lt_icmp_le hd ht kt kf
theorem lk_goto {off : Int} {tgt : Nat} (hd : decode μ.2.1 pc = .ok (.goto off, 3)) (ht : (pc : Int) + off = (tgt : Int)) (kk : Lk G μ d tgt lo st σ mc ms X) : Lk G μ d pc lo st σ mc ms X := lt_goto hd ht kk
theorem lk_ifnonnull {r : Option Nat} {off : Int} {tgt : Nat} (hd : decode μ.2.1 pc = .ok (.ifnonnull off, 3)) (ht : (pc : Int) + off = (tgt : Int)) (kt : ¬ r = none → Lk G μ d tgt lo st σ mc ms X) (kf : r = none → Lk G μ d (pc + 3) lo st σ mc ms X) : Lk G μ d pc lo (vR r :: st) σ mc ms X := by
  cases r with
  | none => exact lt_ifnonnullN hd (kf rfl)
  | some a => exact lt_ifnonnull hd ht (kt (fun h => by cases h))
theorem lk_ifnull {r : Option Nat} {off : Int} {tgt : Nat} (hd : decode μ.2.1 pc = .ok (.ifnull off, 3)) (ht : (pc : Int) + off = (tgt : Int)) (kt : r = none → Lk G μ d tgt lo st σ mc ms X) (kf : ¬ r = none → Lk G μ d (pc + 3) lo st σ mc ms X) : Lk G μ d pc lo (vR r :: st) σ mc ms X := by
  cases r with
  | none => exact lt_ifnullN hd ht (kt rfl)
  | some a => exact lt_ifnull hd (kf (fun h => by cases h))
theorem lk_lookup {dflt : Int} {ps : Array (Int × Int)} {len : Nat} {x : Int32} {off : Int} {tgt : Nat} (hd : decode μ.2.1 pc = .ok (.lookupswitch dflt ps, len)) (hp : (ps.toList.zip (ps.toList.drop 1)).all (fun (a, next) => a.1 < next.1) = true) (ho : Op.lookupswitch.offset ps.toList dflt x.toInt = off) (ht : (pc : Int) + off = (tgt : Int)) (kk : Lk G μ d tgt lo st σ mc ms X) : Lk G μ d pc lo (vI x :: st) σ mc ms X := lt_lookup hd hp ho ht kk
theorem lk_tableOut {dflt tl th : Int} {offs : Array Int} {len : Nat} {x : Int32} {tgt : Nat} (hd : decode μ.2.1 pc = .ok (.tableswitch dflt tl th offs, len)) (h : x.toInt < tl ∨ th < x.toInt) (ht : (pc : Int) + dflt = (tgt : Int)) (kk : Lk G μ d tgt lo st σ mc ms X) : Lk G μ d pc lo (vI x :: st) σ mc ms X := lt_tableOut hd h ht kk
theorem lk_tableIn {dflt tl th : Int} {offs : Array Int} {len : Nat} {x : Int32} {off : Int} {tgt : Nat} (hd : decode μ.2.1 pc = .ok (.tableswitch dflt tl th offs, len)) (g1 : ¬ x.toInt < tl) (g2 : ¬ th < x.toInt) (ho : offs[(x.toInt - tl).toNat]? = some off) (ht : (pc : Int) + off = (tgt : Int)) (kk : Lk G μ d tgt lo st σ mc ms X) : Lk G μ d pc lo (vI x :: st) σ mc ms X := lt_tableIn hd g1 g2 ho ht kk
theorem lk_ldc2 {idx : Nat} {v : Int64} (hd : decode μ.2.1 pc = .ok (.ldc2_w idx, 3)) (hc : Cond.constantLong μ.1.cls idx v ∈ lt_T) (kk : Lk G μ d (pc + 3) lo (vJ v :: st) σ mc ms X) : Lk G μ d pc lo st σ mc ms X := lt_ldc2 hc hd kk
end LK
/-! PARTIAL OPERATIONS on the view -/
/-- the address of an object of class ci -/
def x_ob (σ : hv_S) (ci : Nat) (r : Option Nat) : Option Nat := match r with
  | none => none
  | some a => if hv_sh σ a = some (ci, 0) then some a else none
/-- the address of an array of kind t, with its length -/
def x_ar (σ : hv_S) (t : Nat) (r : Option Nat) : Option (Nat × Nat) := match r with
  | none => none
  | some a => match hv_sh σ a with
    | none => none
    | some x => if x.1 = 1000 + t then some (a, x.2) else none
/-- a place in an array of n elements -/
def x_ix (n : Nat) (i : Int32) : Option Nat := if i < 0 ∨ n ≤ i.toNatClampNeg then none else some i.toNatClampNeg
theorem x_ob_some {σ : hv_S} {ci a : Nat} {r : Option Nat} (h : x_ob σ ci r = some a) : r = some a ∧ hv_sh σ a = some (ci, 0) := by
  unfold x_ob at h
  split at h
  · cases h
  · next b =>
    split at h
    · next hb => cases h; exact ⟨rfl, hb⟩
    · cases h
theorem x_ar_some {σ : hv_S} {t : Nat} {q : Nat × Nat} {r : Option Nat} (h : x_ar σ t r = some q) : r = some q.1 ∧ hv_sh σ q.1 = some (1000 + t, q.2) := by
  unfold x_ar at h
  split at h
  · cases h
  · next b =>
    split at h
    · cases h
    · next x hx =>
      split at h
      · next hxt =>
        cases h
        refine ⟨rfl, ?_⟩
        rw [hx, ← hxt]
      · cases h
theorem x_ix_some {n k : Nat} {i : Int32} (h : x_ix n i = some k) : vp_in i n ∧ i.toNatClampNeg = k := by
  unfold x_ix at h
  split at h
  · cases h
  · next hc => cases h; exact ⟨hc, rfl⟩
section LKH
variable {G : lt_G} {μ : lt_M} {d pc : Nat} {lo lo' : List (Nat × mV)} {st : List mV} {σ : hv_S} {mc ms : Nat} {X : Nat → List (Nat × mV) → List mV → hv_S → Nat → Nat → Prop}
theorem lk_get {a ci k idx : Nat} {r : Option Nat} {C : String} {T : u_T} {N : Nat} {v : mV} (hd : decode μ.2.1 pc = .ok (.getfield idx, 3)) (hx : x_ob σ ci r = some a) (hci : ci < 1000) (hcl : lt_cl[ci]? = some (C, T, N)) (hk : k < N) (hlk : lt_lkF μ.1.cls idx (T k)) (hv : hv_fv (lt_ty ci k) σ a k = mv v) (kk : Lk G μ d (pc + 3) lo (v :: st) σ mc ms X) : Lk G μ d pc lo (vR r :: st) σ mc ms X := by
  obtain ⟨rfl, hs⟩ := x_ob_some hx
  exact lt_get hd hs hci hcl hk hlk hv kk
theorem lk_putI {a ci k idx : Nat} {r : Option Nat} {C : String} {T : u_T} {N : Nat} {x : Int32} (hd : decode μ.2.1 pc = .ok (.putfield idx, 3)) (hx : x_ob σ ci r = some a) (hci : ci < 1000) (hcl : lt_cl[ci]? = some (C, T, N)) (hk : k < N) (hlk : lt_lkF μ.1.cls idx (T k)) (hfin : (T k).2.2.2 = false) (hty : lt_ty ci k = .int) (kk : Lk G μ d (pc + 3) lo st (hv_setI σ a k x) mc ms X) : Lk G μ d pc lo (vI x :: vR r :: st) σ mc ms X := by
  obtain ⟨rfl, hs⟩ := x_ob_some hx
  exact lt_put hd hs hci hcl hk hlk hfin (by rw [hty]; rfl) (by rw [hty]; rfl) (hv_upd_I σ a k x) (by rw [hty]; show Value.int (hv_u _ _ _ _ _ _) = _; rw [hv_u_at]; rfl) kk
/-- a boolean field: what is written is 0 or 1 -/
theorem lk_putZ {a ci k idx : Nat} {r : Option Nat} {C : String} {T : u_T} {N : Nat} {x : Int32} (hd : decode μ.2.1 pc = .ok (.putfield idx, 3)) (hx : x_ob σ ci r = some a) (hz : x = 0 ∨ x = 1) (hci : ci < 1000) (hcl : lt_cl[ci]? = some (C, T, N)) (hk : k < N) (hlk : lt_lkF μ.1.cls idx (T k)) (hfin : (T k).2.2.2 = false) (hty : lt_ty ci k = .boolean) (kk : Lk G μ d (pc + 3) lo st (hv_setI σ a k x) mc ms X) : Lk G μ d pc lo (vI x :: vR r :: st) σ mc ms X := by
  obtain ⟨rfl, hs⟩ := x_ob_some hx
  exact lt_put hd hs hci hcl hk hlk hfin (by rw [hty]; rcases hz with rfl | rfl <;> decide) (by rw [hty]; rcases hz with rfl | rfl <;> decide) (hv_upd_I σ a k x) (by rw [hty]; show Value.int (hv_u _ _ _ _ _ _) = _; rw [hv_u_at]; rfl) kk
theorem lk_putJ {a ci k idx : Nat} {r : Option Nat} {C : String} {T : u_T} {N : Nat} {x : Int64} (hd : decode μ.2.1 pc = .ok (.putfield idx, 3)) (hx : x_ob σ ci r = some a) (hci : ci < 1000) (hcl : lt_cl[ci]? = some (C, T, N)) (hk : k < N) (hlk : lt_lkF μ.1.cls idx (T k)) (hfin : (T k).2.2.2 = false) (hty : lt_ty ci k = .long) (kk : Lk G μ d (pc + 3) lo st (hv_setJ σ a k x) mc ms X) : Lk G μ d pc lo (vJ x :: vR r :: st) σ mc ms X := by
  obtain ⟨rfl, hs⟩ := x_ob_some hx
  exact lt_put hd hs hci hcl hk hlk hfin (by rw [hty]; rfl) (by rw [hty]; rfl) (hv_upd_J σ a k x) (by rw [hty]; show Value.long (hv_u _ _ _ _ _ _) = _; rw [hv_u_at]; rfl) kk
end LKH
