/-! ROWS FOR CONSTRUCTORS: the room that is left is told -/
def x_len (n : Int32) : Option Nat := if n < 0 ∨ 19 < n.toNatClampNeg then none else some n.toNatClampNeg
theorem x_len_some {n : Int32} {N : Nat} (h : x_len n = some N) : ¬ n < 0 ∧ n.toNatClampNeg = N ∧ N ≤ 19 := by
  unfold x_len at h
  split at h
  · cases h
  · next hc => cases h; exact ⟨fun h => hc (Or.inl h), rfl, Nat.not_lt.mp (fun h => hc (Or.inr h))⟩
section LKN
variable {G : lt_G} {μ μ' : lt_M} {d d' pc : Nat} {lo : List (Nat × mV)} {st st0 as : List mV} {σ σ1 : hv_S} {MC MS : Nat} {X : Nat → List (Nat × mV) → List mV → hv_S → Nat → Nat → Prop} {r : Option mV}
theorem lkn_new (mc ms : Nat) {ci idx : Nat} {C : String} {T : u_T} {N : Nat} (hd : decode μ.2.1 pc = .ok (.new idx, 3)) (hci : ci < 1000) (hcl : lt_cl[ci]? = some (C, T, N)) (hl1 : Cond.classLink μ.1.cls idx C ∈ lt_T) (hl2 : Cond.instantiable C N ∈ lt_T) (hl3 : Cond.initialized C ∈ lt_T)
    (hdef : ∀ j, j < N → defaultValue (lt_ty ci j) = hv_fv (lt_ty ci j) hv_zero 0 0) (hmc : MC = mc + 1) (hms : MS = ms + N) (kk : Lk G μ d (pc + 3) lo (vR (some (hv_n σ)) :: st) (hv_new σ (ci, 0)) mc ms X) : Lk G μ d pc lo st σ MC MS X := by
  subst hmc; subst hms
  exact lk_new hd hci hcl hl1 hl2 hl3 hdef (fun _ => kk)
theorem lkn_newarray (mc ms t N : Nat) {atype : ArrayType} {n : Int32} (hd : decode μ.2.1 pc = .ok (.newarray atype, 2)) (hw : Cond.arrayClass (newarray.typeOf atype) ∈ lt_T) (ht : t ∈ lt_codes) (hty : lt_aty t = newarray.typeOf atype) (hn : ¬ n < 0) (hN : n.toNatClampNeg = N) (hbytes : N * componentBytes (newarray.typeOf atype) ≤ 536870912)
    (hdef : defaultValue (lt_aty t) = hv_fv (lt_aty t) hv_zero 0 0) (hmc : MC = mc + 1) (hms : MS = ms + N) (kk : Lk G μ d (pc + 2) lo (vR (some (hv_n σ)) :: st) (hv_new σ (1000 + t, N)) mc ms X) : Lk G μ d pc lo (vI n :: st) σ MC MS X := by
  subst hmc; subst hms
  exact lk_newarray hd hw ht hty hn hN hbytes hdef (fun _ => kk)
theorem lkn_anew (mc ms t N : Nat) {idx : Nat} {C : String} {n : Int32} (hd : decode μ.2.1 pc = .ok (.anewarray idx, 3)) (hcl : Cond.classLink μ.1.cls idx C ∈ lt_T) (ht : t ∈ lt_codes) (hty : lt_aty t = .object C) (hw : Cond.arrayOver (.object C) ∈ lt_N) (hlen : x_len n = some N)
    (hmc : MC = mc + 1) (hms : MS = ms + 19) (kk : Lk G μ d (pc + 3) lo (vR (some (hv_n σ)) :: st) (hv_new σ (1000 + t, N)) mc ms X) : Lk G μ d pc lo (vI n :: st) σ MC MS X := by
  subst hmc; subst hms
  obtain ⟨h1, h2, h3⟩ := x_len_some hlen
  exact Lk.less (mc' := mc + 1) (ms' := ms + N) (Nat.le_refl _) (by omega) (lk_anew hd hcl ht hty hw h1 h2 (by omega) (fun _ => kk))
theorem lkn_callI (mc ms : Nat) {mc' ms' : Nat} {y : MethodName} {cc : ByteArray} {nL b idx : Nat} (hd : decode μ.2.1 pc = .ok (.invokespecial idx, 3)) (hct : Ck G (y, cc, nL, none) d' mc' ms' (vR (some b) :: as) σ r σ1) (hdd : d' + 1 ≤ d) (hst : st0 = as.reverse ++ vR (some b) :: st) (hM : lt_M0 (y, cc, nL, none) as.length) (hlk : lt_lkM μ.1.cls idx y) (hin : Cond.instanceMethod y ∈ lt_T) (hname : y.name = "<init>")
    (hcat : (st.map mcat).sum ≤ 8) (hmc : MC = mc + mc') (hms : MS = ms + ms') (kk : Lk G μ d (pc + 3) lo (r.toList ++ st) σ1 mc ms X) : Lk G μ d pc lo st0 σ MC MS X := by
  subst hmc; subst hms
  exact lk_callI hd hct hdd hst hM hlk hin hname hcat kk
end LKN
theorem df_C : ∀ j, j < 14 → defaultValue (lt_ty 0 j) = hv_fv (lt_ty 0 j) hv_zero 0 0 := by decide +kernel
theorem df_Wr : ∀ j, j < 5 → defaultValue (lt_ty 1 j) = hv_fv (lt_ty 1 j) hv_zero 0 0 := by decide +kernel
theorem df_Tx : ∀ j, j < 2 → defaultValue (lt_ty 2 j) = hv_fv (lt_ty 2 j) hv_zero 0 0 := by decide +kernel
theorem df_Ls : ∀ j, j < 4 → defaultValue (lt_ty 3 j) = hv_fv (lt_ty 3 j) hv_zero 0 0 := by decide +kernel
theorem df_Fo : ∀ j, j < 9 → defaultValue (lt_ty 4 j) = hv_fv (lt_ty 4 j) hv_zero 0 0 := by decide +kernel
theorem df_TL : ∀ j, j < 3 → defaultValue (lt_ty 5 j) = hv_fv (lt_ty 5 j) hv_zero 0 0 := by decide +kernel
theorem df_Ma : ∀ j, j < 8 → defaultValue (lt_ty 6 j) = hv_fv (lt_ty 6 j) hv_zero 0 0 := by decide +kernel
theorem df_Si : ∀ j, j < 6 → defaultValue (lt_ty 7 j) = hv_fv (lt_ty 7 j) hv_zero 0 0 := by decide +kernel
theorem df_Pr : ∀ j, j < 4 → defaultValue (lt_ty 8 j) = hv_fv (lt_ty 8 j) hv_zero 0 0 := by decide +kernel
theorem df_Au : ∀ j, j < 8 → defaultValue (lt_ty 9 j) = hv_fv (lt_ty 9 j) hv_zero 0 0 := by decide +kernel
theorem df_St : ∀ j, j < 5 → defaultValue (lt_ty 10 j) = hv_fv (lt_ty 10 j) hv_zero 0 0 := by decide +kernel
theorem df_Mo : ∀ j, j < 45 → defaultValue (lt_ty 11 j) = hv_fv (lt_ty 11 j) hv_zero 0 0 := by decide +kernel
