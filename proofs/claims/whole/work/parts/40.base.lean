/-! PURE MATHEMATICS, base: numbers, slots in a long, marks in a long, evaluation of decompiled functions -/
theorem pb_inj {a b : Int64} (h : a.toBitVec = b.toBitVec) : a = b := Int64.toBitVec_inj.mp h
theorem pb_c : ∀ k, k < 64 → ((nI k).toInt64 &&& 63) = lN k := by decide +kernel
theorem pb_cu : ∀ k, k < 64 → ((nI k).toInt64.toUInt64 &&& Int64.toUInt64 63) = UInt64.ofNat k := by decide +kernel
theorem pb_sm : ∀ k, k < 64 → (BitVec.ofNat 64 k).smod 64 = BitVec.ofNat 64 k := by decide +kernel
theorem pb_shl (w : Int64) {k : Nat} (hk : k < 64) : (w <<< ((nI k).toInt64 &&& 63)).toBitVec = w.toBitVec <<< k := by
  rw [pb_c k hk, Int64.toBitVec_shiftLeft, show (lN k).toBitVec = BitVec.ofNat 64 k from rfl, pb_sm k hk]
  rw [BitVec.shiftLeft_eq', BitVec.toNat_ofNat, Nat.mod_eq_of_lt (show k < 2 ^ 64 by omega)]
theorem pb_shr (w : Int64) {k : Nat} (hk : k < 64) : ((w.toUInt64 >>> ((nI k).toInt64.toUInt64 &&& Int64.toUInt64 63)).toInt64).toBitVec = w.toBitVec >>> k := by
  rw [pb_cu k hk]
  apply BitVec.eq_of_toNat_eq
  show (w.toUInt64 >>> UInt64.ofNat k).toNat = _
  have h1 : (UInt64.ofNat k).toNat = k := by
    show (BitVec.ofNat 64 k).toNat = k
    rw [BitVec.toNat_ofNat, Nat.mod_eq_of_lt (by omega)]
  rw [UInt64.toNat_shiftRight, h1, Nat.mod_eq_of_lt hk, BitVec.toNat_ushiftRight]
  rfl
/-- slot j of w noted as place p -/
def sl_w (w : Int64) (j p : Nat) : Int64 := (w &&& (((31 : Int64) <<< (((5 : Int32) * nI j).toInt64 &&& 63)) ^^^ ((-1)))) ||| (((nI p + (1 : Int32)).toInt64) <<< (((5 : Int32) * nI j).toInt64 &&& 63))
/-- the place in slot k of w, -1 if it isn't noted -/
def sl_g (w : Int64) (k : Nat) : Int32 := (((w.toUInt64 >>> (((5 : Int32) * nI k).toInt64.toUInt64 &&& Int64.toUInt64 63)).toInt64) &&& (31 : Int64)).toInt32 - (1 : Int32)
theorem sl_wf (w : Int64) (j p : Nat) (s : hv_S) : f_C_withSlot w (nI j) (nI p) s = some (sl_w w j p, s) := rfl
theorem sl_gf (w : Int64) (k : Nat) (s : hv_S) : f_C_placeIn w (nI k) s = some (sl_g w k, s) := rfl
theorem sl_5 (k : Nat) : (5 : Int32) * nI k = nI (5 * k) := by
  rw [show (5 : Int32) = nI 5 from rfl, pk_mul]
theorem sl_31 : ∀ m, m < 64 → (31 : Int64).toBitVec.getLsbD m = decide (m < 5) := by decide +kernel
theorem sl_p {p : Nat} (h : p < 2 ^ 30) : ((nI p + (1 : Int32)).toInt64).toBitVec = BitVec.ofNat 64 (p + 1) := by
  rw [nI_1, nI_l (by omega)]; rfl
theorem sl_wb {w : Int64} {j p m : Nat} (hj : j < 8) (hp : p < 31) (hm : m < 64) : (sl_w w j p).toBitVec.getLsbD m = if 5 * j ≤ m ∧ m < 5 * j + 5 then (p + 1).testBit (m - 5 * j) else w.toBitVec.getLsbD m := by
  unfold sl_w
  rw [sl_5, Int64.toBitVec_or, Int64.toBitVec_and, Int64.toBitVec_xor, pb_shl _ (by omega), pb_shl _ (by omega), sl_p (by omega)]
  rw [BitVec.getLsbD_or, BitVec.getLsbD_and, BitVec.getLsbD_xor, BitVec.getLsbD_shiftLeft, BitVec.getLsbD_shiftLeft, BitVec.getLsbD_ofNat]
  rw [show ((-1 : Int64)).toBitVec.getLsbD m = true from by
    rw [show (-1 : Int64).toBitVec = BitVec.allOnes 64 from by decide, BitVec.getLsbD_allOnes]; simpa using hm]
  by_cases h1 : m < 5 * j
  · rw [if_neg (by omega)]; simp [h1, hm]
  · rw [sl_31 _ (by omega)]
    have hs : m - 5 * j < 64 := by omega
    by_cases h2 : m < 5 * j + 5
    · rw [if_pos ⟨by omega, h2⟩]
      have h3 : m - 5 * j < 5 := by omega
      simp [h1, hm, h3, hs]
    · rw [if_neg (by omega)]
      have h3 : ¬ m - 5 * j < 5 := by omega
      have h4 : (p + 1).testBit (m - 5 * j) = false := by
        apply Nat.testBit_lt_two_pow
        exact Nat.lt_of_lt_of_le (show p + 1 < 2 ^ 5 by omega) (Nat.pow_le_pow_right (by decide) (by omega))
      simp [h1, hm, h3, hs, h4]
theorem sl_gn (w : Int64) {k : Nat} (hk : k < 8) : sl_g w k = nI (w.toBitVec.toNat / 2 ^ (5 * k) % 32) - 1 := by
  unfold sl_g
  rw [sl_5]
  have e : ((w.toUInt64 >>> ((nI (5 * k)).toInt64.toUInt64 &&& Int64.toUInt64 63)).toInt64 &&& (31 : Int64)) = lN (w.toBitVec.toNat / 2 ^ (5 * k) % 32) := by
    apply pb_inj
    rw [Int64.toBitVec_and, pb_shr _ (by omega)]
    apply BitVec.eq_of_toNat_eq
    rw [BitVec.toNat_and, BitVec.toNat_ushiftRight, show (31 : Int64).toBitVec.toNat = 2 ^ 5 - 1 from by decide, Nat.and_two_pow_sub_one_eq_mod, Nat.shiftRight_eq_div_pow]
    show _ = (BitVec.ofNat 64 _).toNat
    rw [BitVec.toNat_ofNat]
    exact (Nat.mod_eq_of_lt (Nat.lt_trans (Nat.mod_lt _ (by decide)) (by decide))).symm
  rw [e, lN_i]
theorem sl_gw {w : Int64} {j p k : Nat} (hj : j < 8) (hk : k < 8) (hp : p < 31) : sl_g (sl_w w j p) k = if k = j then nI p else sl_g w k := by
  rw [sl_gn _ hk]
  have tb : ∀ (v : Int64) (i : Nat), (v.toBitVec.toNat / 2 ^ (5 * k) % 32).testBit i = (decide (i < 5) && v.toBitVec.getLsbD (5 * k + i)) := by
    intro v i
    rw [show (32 : Nat) = 2 ^ 5 from rfl, Nat.testBit_mod_two_pow, Nat.testBit_div_two_pow]
    rw [show i + 5 * k = 5 * k + i from by omega]; rfl
  split
  · next h =>
    subst h
    have : (sl_w w k p).toBitVec.toNat / 2 ^ (5 * k) % 32 = p + 1 := by
      apply Nat.eq_of_testBit_eq
      intro i
      rw [tb]
      by_cases hi : i < 5
      · rw [sl_wb hj hp (by omega), if_pos (by omega)]
        simp [hi]
      · simp [hi]
        apply Nat.testBit_lt_two_pow
        exact Nat.lt_of_lt_of_le (show p + 1 < 2 ^ 5 by omega) (Nat.pow_le_pow_right (by decide) (by omega))
    rw [this, nI_pred]
  · next h =>
    rw [sl_gn _ hk]
    congr 2
    apply Nat.eq_of_testBit_eq
    intro i
    rw [tb, tb]
    by_cases hi : i < 5
    · rw [sl_wb hj hp (by omega), if_neg (by omega)]
    · simp [hi]
theorem sl_g0 : ∀ k, k < 8 → sl_g 0 k = -1 := by decide +kernel
theorem sl_ne {w : Int64} {p : Nat} (h : sl_g w 0 = nI p) (hp : p < 31) : w ≠ 0 := by
  intro e
  rw [e, sl_g0 0 (by decide)] at h
  have := congrArg Int32.toInt h
  rw [nI_toInt (by omega)] at this
  have h1 : (-1 : Int32).toInt = -1 := by decide
  rw [h1] at this
  omega
theorem lg_c0 (x : Int64) : lg_cmp x 0 = 0 ↔ x = 0 := by
  unfold lg_cmp
  constructor
  · intro h
    split at h
    · cases h
    · split at h
      · assumption
      · cases h
  · intro h; subst h; rfl
/-- the mark of i in a long -/
def mk_b (M : Int64) (i : Nat) : Bool := M.toBitVec.getLsbD i
theorem mk_1 {i : Nat} (hi : i < 64) : ((1 : Int64) <<< ((nI i).toInt64 &&& 63)).toBitVec = BitVec.twoPow 64 i := by
  rw [pb_shl _ hi, BitVec.twoPow_eq]; rfl
theorem mk_t {M : Int64} {i : Nat} (hi : i < 64) : lg_cmp (M &&& ((1 : Int64) <<< ((nI i).toInt64 &&& 63))) 0 = 0 ↔ mk_b M i = false := by
  rw [lg_c0, ← Int64.toBitVec_inj, Int64.toBitVec_and, mk_1 hi]
  unfold mk_b
  constructor
  · intro h
    have t := congrArg (fun x => x.getLsbD i) h
    simpa [BitVec.getLsbD_and, BitVec.getLsbD_twoPow, hi] using t
  · intro h
    apply BitVec.eq_of_getLsbD_eq
    intro k hk
    rw [BitVec.getLsbD_and, BitVec.getLsbD_twoPow]
    by_cases e : i = k
    · subst e; simp [h]
    · simp [e]
theorem mk_o {M : Int64} {i j : Nat} (hi : i < 64) (hj : j < 64) : mk_b (M ||| ((1 : Int64) <<< ((nI i).toInt64 &&& 63))) j = (decide (j = i) || mk_b M j) := by
  unfold mk_b
  rw [Int64.toBitVec_or, mk_1 hi, BitVec.getLsbD_or, BitVec.getLsbD_twoPow]
  by_cases e : i = j
  · subst e; simp [hi]
  · simp [e, Ne.symm e]
theorem mk_0 (j : Nat) : mk_b 0 j = false := by
  unfold mk_b
  simp
/-! evaluation -/
section EV
variable {sh : Nat → Option (Nat × Nat)} {I : Nat → Nat → Int32} {J : Nat → Nat → Int64} {R : Nat → Nat → Option Nat} {n : Nat}
theorem ev_b {α β : Type} (a : α) (f : α → Option β) : (some a).bind f = f a := rfl
theorem ev_ob {ci a : Nat} (h : sh a = some (ci, 0)) : x_ob (sh, I, J, R, n) ci (some a) = some a := by
  unfold x_ob; exact if_pos h
theorem ev_ar0 {a N : Nat} (h : sh a = some (1000, N)) : x_ar (sh, I, J, R, n) 0 (some a) = some (a, N) := by
  unfold x_ar
  show (match sh a with | none => none | some x => if x.1 = 1000 + 0 then some (a, x.2) else none) = _
  rw [h]; rfl
theorem ev_ar1 {a N : Nat} (h : sh a = some (1001, N)) : x_ar (sh, I, J, R, n) 1 (some a) = some (a, N) := by
  unfold x_ar
  show (match sh a with | none => none | some x => if x.1 = 1000 + 1 then some (a, x.2) else none) = _
  rw [h]; rfl
theorem ev_ar2 {a N : Nat} (h : sh a = some (1002, N)) : x_ar (sh, I, J, R, n) 2 (some a) = some (a, N) := by
  unfold x_ar
  show (match sh a with | none => none | some x => if x.1 = 1000 + 2 then some (a, x.2) else none) = _
  rw [h]; rfl
theorem ev_ar3 {a N : Nat} (h : sh a = some (1003, N)) : x_ar (sh, I, J, R, n) 3 (some a) = some (a, N) := by
  unfold x_ar
  show (match sh a with | none => none | some x => if x.1 = 1000 + 3 then some (a, x.2) else none) = _
  rw [h]; rfl
theorem ev_ar20 {a N : Nat} (h : sh a = some (1020, N)) : x_ar (sh, I, J, R, n) 20 (some a) = some (a, N) := by
  unfold x_ar
  show (match sh a with | none => none | some x => if x.1 = 1000 + 20 then some (a, x.2) else none) = _
  rw [h]; rfl
theorem ev_sI {a k : Nat} {v : Int32} : hv_setI (sh, I, J, R, n) a k v = (sh, hv_u I a k v, J, R, n) := rfl
theorem ev_sJ {a k : Nat} {v : Int64} : hv_setJ (sh, I, J, R, n) a k v = (sh, I, hv_u J a k v, R, n) := rfl
theorem ev_sR {a k : Nat} {v : Option Nat} : hv_setR (sh, I, J, R, n) a k v = (sh, I, J, hv_u R a k v, n) := rfl
theorem ev_I : hv_I (sh, I, J, R, n) = I := rfl
theorem ev_J : hv_J (sh, I, J, R, n) = J := rfl
theorem ev_R : hv_R (sh, I, J, R, n) = R := rfl
end EV
theorem ev_ix {N k : Nat} (h : k < N) (hN : N < 2 ^ 31) : x_ix N (nI k) = some k := by
  unfold x_ix
  rw [if_neg (nI_in h hN), nI_clamp (by omega)]
theorem ev_it {α : Type} {c : Prop} [Decidable c] {a b : α} (h : c) : (if c then a else b) = a := if_pos h
theorem ev_if {α : Type} {c : Prop} [Decidable c] {a b : α} (h : ¬ c) : (if c then a else b) = b := if_neg h
theorem ev_us {α : Type} {f : Nat → Nat → α} {a k : Nat} {v : α} : hv_u f a k v a k = v := if_pos ⟨rfl, rfl⟩
theorem ev_ua {α : Type} {f : Nat → Nat → α} {a b k j : Nat} {v : α} (h : b ≠ a) : hv_u f a k v b j = f b j := if_neg (fun e => h e.2)
theorem ev_uk {α : Type} {f : Nat → Nat → α} {a b k j : Nat} {v : α} (h : j ≠ k) : hv_u f a k v b j = f b j := if_neg (fun e => h e.1)
theorem ev_n1 {a : Nat} (h : a < 2 ^ 31) : (nI a = -1) = False := by
  apply eq_false
  intro e
  have := congrArg Int32.toInt e
  rw [nI_toInt h, show (-1 : Int32).toInt = -1 from by decide] at this
  omega
theorem ev_z0 : x_z 0 = some 0 := rfl
theorem ev_z1 : x_z 1 = some 1 := rfl
theorem li_0 : (0 : Int32) = nI 0 := rfl
theorem li_1 : (1 : Int32) = nI 1 := rfl
theorem li_2 : (2 : Int32) = nI 2 := rfl
theorem li_3 : (3 : Int32) = nI 3 := rfl
theorem li_4 : (4 : Int32) = nI 4 := rfl
theorem li_5 : (5 : Int32) = nI 5 := rfl
theorem li_6 : (6 : Int32) = nI 6 := rfl
theorem li_7 : (7 : Int32) = nI 7 := rfl
theorem li_8 : (8 : Int32) = nI 8 := rfl
theorem li_20 : (20 : Int32) = nI 20 := rfl
theorem li_21 : (21 : Int32) = nI 21 := rfl
theorem li_24 : (24 : Int32) = nI 24 := rfl
theorem li_25 : (25 : Int32) = nI 25 := rfl
theorem li_49 : (49 : Int32) = nI 49 := rfl
theorem li_64 : (64 : Int32) = nI 64 := rfl
theorem li_99 : (99 : Int32) = nI 99 := rfl
theorem li_505 : (505 : Int32) = nI 505 := rfl
theorem li_2059 : (2059 : Int32) = nI 2059 := rfl
/-! reading operations of the class -/
section RD
variable {sh : Nat → Option (Nat × Nat)} {I : Nat → Nat → Int32} {J : Nat → Nat → Int64} {R : Nat → Nat → Option Nat} {n : Nat}
/-- layout of a program object, a list, a follower -/
def ly_P (sh : Nat → Option (Nat × Nat)) (R : Nat → Nat → Option Nat) (g : Nat) : Prop := sh g = some (8, 0) ∧ sh (g + 1) = some (1000, 49) ∧ sh (g + 2) = some (1000, 49) ∧ sh (g + 3) = some (1000, 49) ∧ R g 0 = some (g + 1) ∧ R g 1 = some (g + 2) ∧ R g 2 = some (g + 3)
def ly_T (sh : Nat → Option (Nat × Nat)) (R : Nat → Nat → Option Nat) (t : Nat) : Prop := sh t = some (5, 0) ∧ sh (t + 1) = some (1000, 25) ∧ sh (t + 2) = some (1001, 25) ∧ R t 0 = some (t + 1) ∧ R t 1 = some (t + 2)
def ly_F (sh : Nat → Option (Nat × Nat)) (R : Nat → Nat → Option Nat) (f : Nat) : Prop := sh f = some (4, 0) ∧ sh (f + 1) = some (1000, 25) ∧ sh (f + 2) = some (1001, 25) ∧ R f 0 = some (f + 1) ∧ R f 1 = some (f + 2)
/-- a program: size, kinds, xs, ys -/
abbrev pg_P : Type := Nat × (Nat → Nat) × (Nat → Nat) × (Nat → Nat)
def pg_R (I : Nat → Nat → Int32) (g : Nat) (P : pg_P) : Prop := I g 3 = nI P.1 ∧ P.1 ≤ 49 ∧ ∀ i, i < P.1 → I (g + 1) i = nI (P.2.1 i) ∧ I (g + 2) i = nI (P.2.2.1 i) ∧ I (g + 3) i = nI (P.2.2.2 i)
theorem e_Pr_size {g : Nat} {P : pg_P} (hl : ly_P sh R g) (hp : pg_R I g P) : f_Pr_size g (sh, I, J, R, n) = some (nI P.1, (sh, I, J, R, n)) := by
  obtain ⟨h0, -⟩ := hl
  obtain ⟨p0, -⟩ := hp
  simp only [f_Pr_size, ev_b, ev_ob h0, ev_I, p0]
theorem e_Pr_kindAt {g i : Nat} {P : pg_P} (hl : ly_P sh R g) (hp : pg_R I g P) (hi : i < P.1) : f_Pr_kindAt g (nI i) (sh, I, J, R, n) = some (nI (P.2.1 i), (sh, I, J, R, n)) := by
  obtain ⟨h0, h1, h2, h3, r0, r1, r2⟩ := hl
  obtain ⟨p0, p1, p2⟩ := hp
  simp (disch := omega) only [f_Pr_kindAt, ev_b, ev_ob h0, ev_I, ev_R, p0, r0, ev_ar0 h1, li_0, li_49, nI_ltI, nI_leI, ev_if, ev_ix, (p2 i hi).1]
theorem e_Pr_xAt {g i : Nat} {P : pg_P} (hl : ly_P sh R g) (hp : pg_R I g P) (hi : i < P.1) : f_Pr_xAt g (nI i) (sh, I, J, R, n) = some (nI (P.2.2.1 i), (sh, I, J, R, n)) := by
  obtain ⟨h0, h1, h2, h3, r0, r1, r2⟩ := hl
  obtain ⟨p0, p1, p2⟩ := hp
  simp (disch := omega) only [f_Pr_xAt, ev_b, ev_ob h0, ev_I, ev_R, p0, r1, ev_ar0 h2, li_0, li_49, nI_ltI, nI_leI, ev_if, ev_ix, (p2 i hi).2.1]
theorem e_Pr_yAt {g i : Nat} {P : pg_P} (hl : ly_P sh R g) (hp : pg_R I g P) (hi : i < P.1) : f_Pr_yAt g (nI i) (sh, I, J, R, n) = some (nI (P.2.2.2 i), (sh, I, J, R, n)) := by
  obtain ⟨h0, h1, h2, h3, r0, r1, r2⟩ := hl
  obtain ⟨p0, p1, p2⟩ := hp
  simp (disch := omega) only [f_Pr_yAt, ev_b, ev_ob h0, ev_I, ev_R, p0, r2, ev_ar0 h3, li_0, li_49, nI_ltI, nI_leI, ev_if, ev_ix, (p2 i hi).2.2]
theorem e_TL_add {t c i : Nat} {w : Int64} (hl : ly_T sh R t) (hc : I t 2 = nI c) (h : c < 25) : f_TL_add t (nI i) w (sh, I, J, R, n) = some (sh, hv_u (hv_u I (t + 1) c (nI i)) t 2 (nI (c + 1)), hv_u J (t + 2) c w, R, n) := by
  obtain ⟨h0, h1, h2, r0, r1⟩ := hl
  simp (disch := omega) only [f_TL_add, ev_b, ev_ob h0, ev_I, ev_R, ev_sI, ev_sJ, hc, r0, r1, ev_ar0 h1, ev_ar1 h2, li_0, li_1, li_25, nI_ltI, nI_leI, nI_add, ev_if, ev_ix, ev_ua]
theorem e_Fo_push {f c i : Nat} {w : Int64} (hl : ly_F sh R f) (hc : I f 2 = nI c) (h : c < 25) (hi : i < 49) : f_Fo_push f (nI i) w (sh, I, J, R, n) = some (sh, hv_u (hv_u I (f + 1) c (nI i)) f 2 (nI (c + 1)), hv_u J (f + 2) c w, R, n) := by
  obtain ⟨h0, h1, h2, r0, r1⟩ := hl
  simp (disch := omega) only [f_Fo_push, ev_b, ev_ob h0, ev_I, ev_R, ev_sI, ev_sJ, hc, r0, r1, ev_ar0 h1, ev_ar1 h2, li_0, li_1, li_25, li_49, nI_ltI, nI_leI, nI_add, ev_if, ev_ix, ev_ua]
theorem e_TL_size {t c : Nat} (hl : ly_T sh R t) (hc : I t 2 = nI c) : f_TL_size t (sh, I, J, R, n) = some (nI c, (sh, I, J, R, n)) := by
  obtain ⟨h0, -⟩ := hl
  simp only [f_TL_size, ev_b, ev_ob h0, ev_I, hc]
theorem e_TL_instructionAt {t c i : Nat} (hl : ly_T sh R t) (hc : I t 2 = nI c) (h : c ≤ 25) (hi : i < c) : f_TL_instructionAt t (nI i) (sh, I, J, R, n) = some (I (t + 1) i, (sh, I, J, R, n)) := by
  obtain ⟨h0, h1, h2, r0, r1⟩ := hl
  simp (disch := omega) only [f_TL_instructionAt, ev_b, ev_ob h0, ev_I, ev_R, hc, r0, ev_ar0 h1, li_0, li_25, nI_ltI, nI_leI, ev_if, ev_ix]
theorem e_TL_slotsAt {t c i : Nat} (hl : ly_T sh R t) (hc : I t 2 = nI c) (h : c ≤ 25) (hi : i < c) : f_TL_slotsAt t (nI i) (sh, I, J, R, n) = some (J (t + 2) i, (sh, I, J, R, n)) := by
  obtain ⟨h0, h1, h2, r0, r1⟩ := hl
  simp (disch := omega) only [f_TL_slotsAt, ev_b, ev_ob h0, ev_I, ev_J, ev_R, hc, r1, ev_ar1 h2, li_0, li_25, nI_ltI, nI_leI, ev_if, ev_ix]
end RD
