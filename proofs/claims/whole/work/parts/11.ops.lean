/-! SMALL LAWS for the decompiler's proofs -/
theorem x_b {α β : Type} {o : Option α} {f : α → Option β} {b : β} (h : o.bind f = some b) : ∃ a, o = some a ∧ f a = some b := by
  cases o with
  | none => cases h
  | some a => exact ⟨a, rfl, h⟩
theorem x_nm {α β : Type} {a : α} {f : α → Option β} {b : β} (h : (some a).bind f = some b) : f a = some b := h
theorem x_ifp {α : Type} {c : Prop} [Decidable c] {A B r : α} (hc : c) (h : (if c then A else B) = r) : A = r := by
  rw [if_pos hc] at h; exact h
theorem x_ifn {α : Type} {c : Prop} [Decidable c] {A B r : α} (hc : ¬ c) (h : (if c then A else B) = r) : B = r := by
  rw [if_neg hc] at h; exact h
theorem x_ifc {α : Type} {c : Prop} [Decidable c] {A B r : α} (h : (if c then A else B) = r) : (c ∧ A = r) ∨ (¬ c ∧ B = r) := by
  by_cases hc : c
  · exact Or.inl ⟨hc, x_ifp hc h⟩
  · exact Or.inr ⟨hc, x_ifn hc h⟩
def x_z (v : Int32) : Option Int32 := if v = 0 ∨ v = 1 then some v else none
theorem x_z_some {v z : Int32} (h : x_z v = some z) : v = z ∧ (v = 0 ∨ v = 1) := by
  unfold x_z at h
  split at h
  · next hz => cases h; exact ⟨rfl, hz⟩
  · cases h
theorem x_zn {v : Int32} (h : v = 0 ∨ v = 1) : narrow .boolean (.int v) = .int v := by
  rcases h with rfl | rfl <;> decide
theorem x_obm {σ σ' : hv_S} {ci a : Nat} {r : Option Nat} (h : x_ob σ ci r = some a) (e : hv_sh σ' = hv_sh σ) : x_ob σ' ci r = some a := by
  unfold x_ob at h ⊢
  rw [e]; exact h
def lk_at (pc0 : Nat) (lo0 : List (Nat × mV)) (st0 : List mV) (σ0 : hv_S) (mc0 ms0 : Nat) : Nat → List (Nat × mV) → List mV → hv_S → Nat → Nat → Prop := fun pc lo st σ mc ms => pc = pc0 ∧ lo = lo0 ∧ st = st0 ∧ σ = σ0 ∧ mc = mc0 ∧ ms = ms0
def lt_kd (ty : FieldType) : Nat := match ty with
  | .long => 1
  | .object _ => 2
  | .array _ => 2
  | .float => 3
  | .double => 3
  | _ => 0
section LKO
variable {G : lt_G} {μ : lt_M} {d pc : Nat} {lo lo' : List (Nat × mV)} {st : List mV} {σ : hv_S} {mc ms : Nat} {X : Nat → List (Nat × mV) → List mV → hv_S → Nat → Nat → Prop}
/-- a join: the slots that stay live, what is new among them, what stands new on the stack behind k popped values -/
theorem Lk.joinA {lo1 : List (Nat × mV)} (J : Nat) (is : List Nat) (up : List (Nat × mV)) (hk : mk_sel (up ++ lo) is = some lo1) (k : Nat) (new : List mV) (h : Lk G μ d pc lo st σ mc ms (lk_at J lo1 (new ++ st.drop k) σ mc ms)) (kk : Lk G μ d J lo1 (new ++ st.drop k) σ mc ms X) : Lk G μ d pc lo st σ mc ms X :=
  Lk.trans h (fun pc' lo' st' σ' mc' ms' hy => by obtain ⟨rfl, rfl, rfl, rfl, rfl, rfl⟩ := hy; exact kk)
theorem Lk.joinS {lo1 : List (Nat × mV)} (J : Nat) (is : List Nat) (up : List (Nat × mV)) (hk : mk_sel (up ++ lo) is = some lo1) (k : Nat) (new : List mV) (σ1 : hv_S) (h : Lk G μ d pc lo st σ mc ms (lk_at J lo1 (new ++ st.drop k) σ1 mc ms)) (kk : Lk G μ d J lo1 (new ++ st.drop k) σ1 mc ms X) : Lk G μ d pc lo st σ mc ms X :=
  Lk.trans h (fun pc' lo' st' σ' mc' ms' hy => by obtain ⟨rfl, rfl, rfl, rfl, rfl, rfl⟩ := hy; exact kk)
theorem lk_getI {a ci k idx : Nat} {r : Option Nat} {C : String} {T : u_T} {N : Nat} (hd : decode μ.2.1 pc = .ok (.getfield idx, 3)) (hx : x_ob σ ci r = some a) (hci : ci < 1000) (hcl : lt_cl[ci]? = some (C, T, N)) (hk : k < N) (hlk : lt_lkF μ.1.cls idx (T k)) (hty : lt_kd (lt_ty ci k) = 0) (kk : Lk G μ d (pc + 3) lo (vI (hv_I σ a k) :: st) σ mc ms X) : Lk G μ d pc lo (vR r :: st) σ mc ms X :=
  lk_get hd hx hci hcl hk hlk (by cases h : lt_ty ci k <;> first | rfl | (rw [h] at hty; cases hty)) kk
theorem lk_getJ {a ci k idx : Nat} {r : Option Nat} {C : String} {T : u_T} {N : Nat} (hd : decode μ.2.1 pc = .ok (.getfield idx, 3)) (hx : x_ob σ ci r = some a) (hci : ci < 1000) (hcl : lt_cl[ci]? = some (C, T, N)) (hk : k < N) (hlk : lt_lkF μ.1.cls idx (T k)) (hty : lt_kd (lt_ty ci k) = 1) (kk : Lk G μ d (pc + 3) lo (vJ (hv_J σ a k) :: st) σ mc ms X) : Lk G μ d pc lo (vR r :: st) σ mc ms X :=
  lk_get hd hx hci hcl hk hlk (by cases h : lt_ty ci k <;> first | rfl | (rw [h] at hty; cases hty)) kk
theorem lk_getR {a ci k idx : Nat} {r : Option Nat} {C : String} {T : u_T} {N : Nat} (hd : decode μ.2.1 pc = .ok (.getfield idx, 3)) (hx : x_ob σ ci r = some a) (hci : ci < 1000) (hcl : lt_cl[ci]? = some (C, T, N)) (hk : k < N) (hlk : lt_lkF μ.1.cls idx (T k)) (hty : lt_kd (lt_ty ci k) = 2) (kk : Lk G μ d (pc + 3) lo (vR (hv_R σ a k) :: st) σ mc ms X) : Lk G μ d pc lo (vR r :: st) σ mc ms X :=
  lk_get hd hx hci hcl hk hlk (by cases h : lt_ty ci k <;> first | rfl | (rw [h] at hty; cases hty)) kk
theorem lk_callV0 {μ' : lt_M} {d' : Nat} {as st0 : List mV} {σ1 : hv_S} {r : Option mV} {ci b idx : Nat} {rr : Option Nat} {C : String} {T : u_T} {N : Nat} (hd : decode μ.2.1 pc = .ok (.invokevirtual idx, 3)) (hx : x_ob σ ci rr = some b) (hct : Ck G μ' d' 0 0 (vR (some b) :: as) σ r σ1) (hdd : d' + 1 ≤ d) (hst : st0 = as.reverse ++ vR rr :: st) (hM : lt_M0 μ' as.length) (hlk : lt_lkM μ.1.cls idx μ'.1) (hin : Cond.instanceMethod μ'.1 ∈ lt_T) (hse : Cond.selects C μ'.1 μ'.1 ∈ lt_T)
    (hci : ci < 1000) (hcl : lt_cl[ci]? = some (C, T, N)) (hcat : (st.map mcat).sum ≤ 8) (kk : Lk G μ d (pc + 3) lo (r.toList ++ st) σ1 mc ms X) : Lk G μ d pc lo st0 σ mc ms X := lk_callV (mc := mc) (ms := ms) (mc' := 0) (ms' := 0) hd hx hct hdd hst hM hlk hin hse hci hcl hcat kk
theorem lk_callS0 {μ' : lt_M} {d' : Nat} {as st0 : List mV} {σ1 : hv_S} {r : Option mV} {idx : Nat} (hd : decode μ.2.1 pc = .ok (.invokestatic idx, 3)) (hct : Ck G μ' d' 0 0 as σ r σ1) (hdd : d' + 1 ≤ d) (hst : st0 = as.reverse ++ st) (hM : lt_M0 μ' as.length) (hlk : lt_lkM μ.1.cls idx μ'.1) (hstc : Cond.static μ'.1 ∈ lt_T)
    (hcat : (st.map mcat).sum ≤ 8) (kk : Lk G μ d (pc + 3) lo (r.toList ++ st) σ1 mc ms X) : Lk G μ d pc lo st0 σ mc ms X := lk_callS (mc := mc) (ms := ms) (mc' := 0) (ms' := 0) hd hct hdd hst hM hlk hstc hcat kk
theorem lk_mmax {idx : Nat} {x y : Int32} (hd : decode μ.2.1 pc = .ok (.invokestatic idx, 3)) (hlk : Cond.methodLink μ.1.cls idx Lib.Math.max.name ∈ lt_T) (hst : Cond.static Lib.Math.max.name ∈ lt_T) (hini : Cond.initialized "java/lang/Math" ∈ lt_T) (hco : Cond.code Lib.Math.max.name Lib.Math.max.code 2 (some .int) ∈ lt_T) (hdd : 1 ≤ d) (hcat : (st.map mcat).sum ≤ 8) (kk : Lk G μ d (pc + 3) lo (vI (if x < y then y else x) :: st) σ mc ms X) : Lk G μ d pc lo (vI y :: vI x :: st) σ mc ms X := by
  intro p l e R s m args below meth c hC A hA hY Q hX H locs cells slots ls hl hH h1 h2
  have kk' := kk p l e R s m args below meth c hC A hA hY Q hX H locs cells slots ls hl hH h1 h2
  obtain ⟨hx, hb, -, hml, hown, hts, hnw, hK, -, -, hfr, hlo, hOk, hTr, -⟩ := hC
  exact va_mmax hx hb (by rw [hml]; exact hl.1.symm) hown (hts _ hlk) (hts _ hst) (hts _ hini) (hts _ hco) (by omega) (by rw [mk_cats]; omega) (by omega) (by omega) hd kk'
end LKO
