/-! NAMES, printed by wip/whole/gen_names.py out of the claim's own texts -/
def R_C : String := "LinearSearch"
def F_C : u_T := fun k => match k with
  | 0 => ("LinearSearch", "pattern", "[C", true)
  | 1 => ("LinearSearch", "patternLength", "I", false)
  | 2 => ("LinearSearch", "writer", "LLinearSearch$Writer;", true)
  | 3 => ("LinearSearch", "text", "LLinearSearch$Text;", true)
  | 4 => ("LinearSearch", "lists", "LLinearSearch$Lists;", true)
  | 5 => ("LinearSearch", "marks", "LLinearSearch$Marks;", true)
  | 6 => ("LinearSearch", "single", "LLinearSearch$Single;", true)
  | 7 => ("LinearSearch", "automaton", "LLinearSearch$Automaton;", true)
  | 8 => ("LinearSearch", "program", "LLinearSearch$Program;", false)
  | 9 => ("LinearSearch", "draft", "LLinearSearch$Program;", false)
  | 10 => ("LinearSearch", "fitsSingle", "Z", false)
  | 11 => ("LinearSearch", "match", "J", false)
  | 12 => ("LinearSearch", "latestWork", "I", false)
  | _ => ("LinearSearch", "latestMatcher", "I", false)
def t_C : Nat → FieldType := fun k => match k with
  | 0 => .array .char
  | 1 => .int
  | 2 => .object "LinearSearch$Writer"
  | 3 => .object "LinearSearch$Text"
  | 4 => .object "LinearSearch$Lists"
  | 5 => .object "LinearSearch$Marks"
  | 6 => .object "LinearSearch$Single"
  | 7 => .object "LinearSearch$Automaton"
  | 8 => .object "LinearSearch$Program"
  | 9 => .object "LinearSearch$Program"
  | 10 => .boolean
  | 11 => .long
  | 12 => .int
  | _ => .int
def R_Wr : String := "LinearSearch$Writer"
def F_Wr : u_T := fun k => match k with
  | 0 => ("LinearSearch$Writer", "source", "[C", false)
  | 1 => ("LinearSearch$Writer", "length", "I", false)
  | 2 => ("LinearSearch$Writer", "at", "I", false)
  | 3 => ("LinearSearch$Writer", "groups", "I", false)
  | _ => ("LinearSearch$Writer", "target", "LLinearSearch$Program;", false)
def t_Wr : Nat → FieldType := fun k => match k with
  | 0 => .array .char
  | 1 => .int
  | 2 => .int
  | 3 => .int
  | _ => .object "LinearSearch$Program"
def R_Tx : String := "LinearSearch$Text"
def F_Tx : u_T := fun k => match k with
  | 0 => ("LinearSearch$Text", "letters", "[I", true)
  | _ => ("LinearSearch$Text", "length", "I", false)
def t_Tx : Nat → FieldType := fun k => match k with
  | 0 => .array .int
  | _ => .int
def R_Ls : String := "LinearSearch$Lists"
def F_Ls : u_T := fun k => match k with
  | 0 => ("LinearSearch$Lists", "follower", "LLinearSearch$Follower;", true)
  | 1 => ("LinearSearch$Lists", "now", "LLinearSearch$ThreadList;", false)
  | 2 => ("LinearSearch$Lists", "next", "LLinearSearch$ThreadList;", false)
  | _ => ("LinearSearch$Lists", "passed", "I", false)
def t_Ls : Nat → FieldType := fun k => match k with
  | 0 => .object "LinearSearch$Follower"
  | 1 => .object "LinearSearch$ThreadList"
  | 2 => .object "LinearSearch$ThreadList"
  | _ => .int
def R_Fo : String := "LinearSearch$Follower"
def F_Fo : u_T := fun k => match k with
  | 0 => ("LinearSearch$Follower", "waiting", "[I", true)
  | 1 => ("LinearSearch$Follower", "waitingSlots", "[J", true)
  | 2 => ("LinearSearch$Follower", "waitingCount", "I", false)
  | 3 => ("LinearSearch$Follower", "marked", "J", false)
  | 4 => ("LinearSearch$Follower", "cameTwice", "Z", false)
  | 5 => ("LinearSearch$Follower", "program", "LLinearSearch$Program;", false)
  | 6 => ("LinearSearch$Follower", "list", "LLinearSearch$ThreadList;", false)
  | 7 => ("LinearSearch$Follower", "place", "I", false)
  | _ => ("LinearSearch$Follower", "lastRule", "I", false)
def t_Fo : Nat → FieldType := fun k => match k with
  | 0 => .array .int
  | 1 => .array .long
  | 2 => .int
  | 3 => .long
  | 4 => .boolean
  | 5 => .object "LinearSearch$Program"
  | 6 => .object "LinearSearch$ThreadList"
  | 7 => .int
  | _ => .int
def R_TL : String := "LinearSearch$ThreadList"
def F_TL : u_T := fun k => match k with
  | 0 => ("LinearSearch$ThreadList", "instructions", "[I", true)
  | 1 => ("LinearSearch$ThreadList", "slots", "[J", true)
  | _ => ("LinearSearch$ThreadList", "size", "I", false)
def t_TL : Nat → FieldType := fun k => match k with
  | 0 => .array .int
  | 1 => .array .long
  | _ => .int
def R_Ma : String := "LinearSearch$Marks"
def F_Ma : u_T := fun k => match k with
  | 0 => ("LinearSearch$Marks", "marked", "[J", true)
  | 1 => ("LinearSearch$Marks", "waiting", "[I", true)
  | 2 => ("LinearSearch$Marks", "waitingPlaces", "[I", true)
  | 3 => ("LinearSearch$Marks", "waitingSlots", "[J", true)
  | 4 => ("LinearSearch$Marks", "waitingCount", "I", false)
  | 5 => ("LinearSearch$Marks", "set", "I", false)
  | 6 => ("LinearSearch$Marks", "program", "LLinearSearch$Program;", false)
  | _ => ("LinearSearch$Marks", "text", "LLinearSearch$Text;", false)
def t_Ma : Nat → FieldType := fun k => match k with
  | 0 => .array .long
  | 1 => .array .int
  | 2 => .array .int
  | 3 => .array .long
  | 4 => .int
  | 5 => .int
  | 6 => .object "LinearSearch$Program"
  | _ => .object "LinearSearch$Text"
def R_Si : String := "LinearSearch$Single"
def F_Si : u_T := fun k => match k with
  | 0 => ("LinearSearch$Single", "follower", "LLinearSearch$Follower;", true)
  | 1 => ("LinearSearch$Single", "list", "LLinearSearch$ThreadList;", true)
  | 2 => ("LinearSearch$Single", "passed", "I", false)
  | 3 => ("LinearSearch$Single", "best", "J", false)
  | 4 => ("LinearSearch$Single", "goesOn", "I", false)
  | _ => ("LinearSearch$Single", "goesOnSlots", "J", false)
def t_Si : Nat → FieldType := fun k => match k with
  | 0 => .object "LinearSearch$Follower"
  | 1 => .object "LinearSearch$ThreadList"
  | 2 => .int
  | 3 => .long
  | 4 => .int
  | _ => .long
def R_Pr : String := "LinearSearch$Program"
def F_Pr : u_T := fun k => match k with
  | 0 => ("LinearSearch$Program", "kinds", "[I", true)
  | 1 => ("LinearSearch$Program", "xs", "[I", true)
  | 2 => ("LinearSearch$Program", "ys", "[I", true)
  | _ => ("LinearSearch$Program", "size", "I", false)
def t_Pr : Nat → FieldType := fun k => match k with
  | 0 => .array .int
  | 1 => .array .int
  | 2 => .array .int
  | _ => .int
def R_Au : String := "LinearSearch$Automaton"
def F_Au : u_T := fun k => match k with
  | 0 => ("LinearSearch$Automaton", "follower", "LLinearSearch$Follower;", true)
  | 1 => ("LinearSearch$Automaton", "list", "LLinearSearch$ThreadList;", true)
  | 2 => ("LinearSearch$Automaton", "row", "[LLinearSearch$State;", true)
  | 3 => ("LinearSearch$Automaton", "spare", "LLinearSearch$State;", false)
  | 4 => ("LinearSearch$Automaton", "kept", "I", false)
  | 5 => ("LinearSearch$Automaton", "flushed", "I", false)
  | 6 => ("LinearSearch$Automaton", "flushedInSearch", "I", false)
  | _ => ("LinearSearch$Automaton", "made", "I", false)
def t_Au : Nat → FieldType := fun k => match k with
  | 0 => .object "LinearSearch$Follower"
  | 1 => .object "LinearSearch$ThreadList"
  | 2 => .array (.object "LinearSearch$State")
  | 3 => .object "LinearSearch$State"
  | 4 => .int
  | 5 => .int
  | 6 => .int
  | _ => .int
def R_St : String := "LinearSearch$State"
def F_St : u_T := fun k => match k with
  | 0 => ("LinearSearch$State", "entries", "[I", true)
  | 1 => ("LinearSearch$State", "leads", "[I", true)
  | 2 => ("LinearSearch$State", "size", "I", false)
  | 3 => ("LinearSearch$State", "isOpen", "Z", false)
  | _ => ("LinearSearch$State", "hasFound", "Z", false)
def t_St : Nat → FieldType := fun k => match k with
  | 0 => .array .int
  | 1 => .array .int
  | 2 => .int
  | 3 => .boolean
  | _ => .boolean
def R_Mo : String := "LinearSearchModel"
def F_Mo : u_T := fun k => match k with
  | 0 => ("LinearSearchModel", "code", "I", false)
  | 1 => ("LinearSearchModel", "limit", "I", true)
  | 2 => ("LinearSearchModel", "typed", "I", false)
  | 3 => ("LinearSearchModel", "pattern", "[I", true)
  | 4 => ("LinearSearchModel", "fed", "I", false)
  | 5 => ("LinearSearchModel", "text", "[I", true)
  | 6 => ("LinearSearchModel", "length", "I", false)
  | 7 => ("LinearSearchModel", "kind", "[I", true)
  | 8 => ("LinearSearchModel", "x", "[I", true)
  | 9 => ("LinearSearchModel", "y", "[I", true)
  | 10 => ("LinearSearchModel", "written", "I", false)
  | 11 => ("LinearSearchModel", "newKind", "[I", true)
  | 12 => ("LinearSearchModel", "newX", "[I", true)
  | 13 => ("LinearSearchModel", "newY", "[I", true)
  | 14 => ("LinearSearchModel", "at", "I", false)
  | 15 => ("LinearSearchModel", "isSimple", "Z", false)
  | 16 => ("LinearSearchModel", "stamp", "I", false)
  | 17 => ("LinearSearchModel", "mark", "[I", true)
  | 18 => ("LinearSearchModel", "ways", "I", false)
  | 19 => ("LinearSearchModel", "wayAt", "[I", true)
  | 20 => ("LinearSearchModel", "wayPlace", "[I", true)
  | 21 => ("LinearSearchModel", "waySlots", "[I", true)
  | 22 => ("LinearSearchModel", "now", "[I", true)
  | 23 => ("LinearSearchModel", "many", "[I", true)
  | 24 => ("LinearSearchModel", "entry", "[I", true)
  | 25 => ("LinearSearchModel", "slots", "[I", true)
  | 26 => ("LinearSearchModel", "visited", "[Z", true)
  | 27 => ("LinearSearchModel", "kept", "I", false)
  | 28 => ("LinearSearchModel", "flushed", "I", false)
  | 29 => ("LinearSearchModel", "searchFlushes", "I", false)
  | 30 => ("LinearSearchModel", "size", "[I", true)
  | 31 => ("LinearSearchModel", "row", "[I", true)
  | 32 => ("LinearSearchModel", "open", "[Z", true)
  | 33 => ("LinearSearchModel", "leads", "[I", true)
  | 34 => ("LinearSearchModel", "fresh", "I", false)
  | 35 => ("LinearSearchModel", "freshRow", "[I", true)
  | 36 => ("LinearSearchModel", "count", "I", false)
  | 37 => ("LinearSearchModel", "done", "I", false)
  | 38 => ("LinearSearchModel", "work", "I", false)
  | 39 => ("LinearSearchModel", "found", "Z", false)
  | 40 => ("LinearSearchModel", "match", "[I", true)
  | 41 => ("LinearSearchModel", "sequence", "[I", true)
  | 42 => ("LinearSearchModel", "opened", "[I", true)
  | 43 => ("LinearSearchModel", "group", "[I", true)
  | _ => ("LinearSearchModel", "spare", "[I", true)
def t_Mo : Nat → FieldType := fun k => match k with
  | 0 => .int
  | 1 => .int
  | 2 => .int
  | 3 => .array .int
  | 4 => .int
  | 5 => .array .int
  | 6 => .int
  | 7 => .array .int
  | 8 => .array .int
  | 9 => .array .int
  | 10 => .int
  | 11 => .array .int
  | 12 => .array .int
  | 13 => .array .int
  | 14 => .int
  | 15 => .boolean
  | 16 => .int
  | 17 => .array .int
  | 18 => .int
  | 19 => .array .int
  | 20 => .array .int
  | 21 => .array .int
  | 22 => .array .int
  | 23 => .array .int
  | 24 => .array .int
  | 25 => .array .int
  | 26 => .array .boolean
  | 27 => .int
  | 28 => .int
  | 29 => .int
  | 30 => .array .int
  | 31 => .array .int
  | 32 => .array .boolean
  | 33 => .array .int
  | 34 => .int
  | 35 => .array .int
  | 36 => .int
  | 37 => .int
  | 38 => .int
  | 39 => .boolean
  | 40 => .array .int
  | 41 => .array .int
  | 42 => .array .int
  | 43 => .array .int
  | _ => .array .int
def lt_cl : List vw_C := [(R_C, F_C, 14), (R_Wr, F_Wr, 5), (R_Tx, F_Tx, 2), (R_Ls, F_Ls, 4), (R_Fo, F_Fo, 9), (R_TL, F_TL, 3), (R_Ma, F_Ma, 8), (R_Si, F_Si, 6), (R_Pr, F_Pr, 4), (R_Au, F_Au, 8), (R_St, F_St, 5), (R_Mo, F_Mo, 45)]
def lt_ty : Nat → Nat → FieldType := fun i => match i with
  | 0 => t_C
  | 1 => t_Wr
  | 2 => t_Tx
  | 3 => t_Ls
  | 4 => t_Fo
  | 5 => t_TL
  | 6 => t_Ma
  | 7 => t_Si
  | 8 => t_Pr
  | 9 => t_Au
  | 10 => t_St
  | _ => t_Mo
def lt_codes : List Nat := [0, 1, 2, 3, 20]
def lt_aty : Nat → FieldType := fun t => match t with
  | 0 => .int
  | 1 => .long
  | 2 => .char
  | 3 => .boolean
  | 4 => .byte
  | 5 => .short
  | _ => .object "LinearSearch$State"
def lt_T : List Cond := lw_tbl.filter goodWord
def lt_isN : Cond → Bool
  | .fieldLinkNest _ _ _ _ _ _ => true
  | .methodLinkNest _ _ _ _ => true
  | .arrayOver (.object _) => true
  | _ => false
def lt_N : List Cond := tables_1.filter lt_isN
theorem lt_N_ok : ∀ w ∈ lt_N, lt_isN w = true := fun w hw => (List.mem_filter.mp hw).2
theorem lt_T_good : ∀ w ∈ lt_T, goodWord w = true := fun w hw => (List.mem_filter.mp hw).2
theorem lt_memS {w : Cond} (i : Nat) (h : (k2_sels lw_privs)[i]? = some w) (hg : goodWord w = true) : w ∈ lt_T := List.mem_filter.mpr ⟨List.mem_append_left _ (List.mem_of_getElem? h), hg⟩

theorem lt_m1 {w : Cond} (i : Nat) (h : tables_1_1[i]? = some w) (hg : goodWord w = true) : w ∈ lt_T := List.mem_filter.mpr ⟨List.mem_append_right _ (List.mem_append_left _ (List.mem_of_getElem? h)), hg⟩
theorem lt_n1 {w : Cond} (i : Nat) (h : tables_1_1[i]? = some w) (hg : lt_isN w = true) : w ∈ lt_N := List.mem_filter.mpr ⟨(List.mem_append_left _ (List.mem_of_getElem? h)), hg⟩
theorem lt_m2 {w : Cond} (i : Nat) (h : tables_1_2[i]? = some w) (hg : goodWord w = true) : w ∈ lt_T := List.mem_filter.mpr ⟨List.mem_append_right _ (List.mem_append_right _ (List.mem_append_left _ (List.mem_of_getElem? h))), hg⟩
theorem lt_n2 {w : Cond} (i : Nat) (h : tables_1_2[i]? = some w) (hg : lt_isN w = true) : w ∈ lt_N := List.mem_filter.mpr ⟨(List.mem_append_right _ (List.mem_append_left _ (List.mem_of_getElem? h))), hg⟩
theorem lt_m3 {w : Cond} (i : Nat) (h : tables_1_3[i]? = some w) (hg : goodWord w = true) : w ∈ lt_T := List.mem_filter.mpr ⟨List.mem_append_right _ (List.mem_append_right _ (List.mem_append_right _ (List.mem_append_left _ (List.mem_of_getElem? h)))), hg⟩
theorem lt_n3 {w : Cond} (i : Nat) (h : tables_1_3[i]? = some w) (hg : lt_isN w = true) : w ∈ lt_N := List.mem_filter.mpr ⟨(List.mem_append_right _ (List.mem_append_right _ (List.mem_append_left _ (List.mem_of_getElem? h)))), hg⟩
theorem lt_m4 {w : Cond} (i : Nat) (h : tables_1_4[i]? = some w) (hg : goodWord w = true) : w ∈ lt_T := List.mem_filter.mpr ⟨List.mem_append_right _ (List.mem_append_right _ (List.mem_append_right _ (List.mem_append_right _ (List.mem_append_left _ (List.mem_of_getElem? h))))), hg⟩
theorem lt_n4 {w : Cond} (i : Nat) (h : tables_1_4[i]? = some w) (hg : lt_isN w = true) : w ∈ lt_N := List.mem_filter.mpr ⟨(List.mem_append_right _ (List.mem_append_right _ (List.mem_append_right _ (List.mem_append_left _ (List.mem_of_getElem? h))))), hg⟩
theorem lt_m5 {w : Cond} (i : Nat) (h : tables_1_5[i]? = some w) (hg : goodWord w = true) : w ∈ lt_T := List.mem_filter.mpr ⟨List.mem_append_right _ (List.mem_append_right _ (List.mem_append_right _ (List.mem_append_right _ (List.mem_append_right _ (List.mem_append_left _ (List.mem_of_getElem? h)))))), hg⟩
theorem lt_n5 {w : Cond} (i : Nat) (h : tables_1_5[i]? = some w) (hg : lt_isN w = true) : w ∈ lt_N := List.mem_filter.mpr ⟨(List.mem_append_right _ (List.mem_append_right _ (List.mem_append_right _ (List.mem_append_right _ (List.mem_append_left _ (List.mem_of_getElem? h)))))), hg⟩
theorem lt_m6 {w : Cond} (i : Nat) (h : tables_1_6[i]? = some w) (hg : goodWord w = true) : w ∈ lt_T := List.mem_filter.mpr ⟨List.mem_append_right _ (List.mem_append_right _ (List.mem_append_right _ (List.mem_append_right _ (List.mem_append_right _ (List.mem_append_right _ (List.mem_of_getElem? h)))))), hg⟩
theorem lt_n6 {w : Cond} (i : Nat) (h : tables_1_6[i]? = some w) (hg : lt_isN w = true) : w ∈ lt_N := List.mem_filter.mpr ⟨(List.mem_append_right _ (List.mem_append_right _ (List.mem_append_right _ (List.mem_append_right _ (List.mem_append_right _ (List.mem_of_getElem? h)))))), hg⟩
set_option maxRecDepth 10000 in
theorem i_C : ∀ w ∈ u_ws R_C F_C 14, w ∈ lt_T := by
  intro w hw
  obtain ⟨k, hk, rfl⟩ := List.mem_map.mp hw
  have hk := List.mem_range.mp hk
  match k, hk with
  | 0, _ => exact lt_m2 52 rfl rfl
  | 1, _ => exact lt_m2 54 rfl rfl
  | 2, _ => exact lt_m2 56 rfl rfl
  | 3, _ => exact lt_m2 58 rfl rfl
  | 4, _ => exact lt_m2 60 rfl rfl
  | 5, _ => exact lt_m2 62 rfl rfl
  | 6, _ => exact lt_m2 64 rfl rfl
  | 7, _ => exact lt_m2 66 rfl rfl
  | 8, _ => exact lt_m2 68 rfl rfl
  | 9, _ => exact lt_m2 70 rfl rfl
  | 10, _ => exact lt_m2 72 rfl rfl
  | 11, _ => exact lt_m2 74 rfl rfl
  | 12, _ => exact lt_m2 76 rfl rfl
  | 13, _ => exact lt_m2 78 rfl rfl
  | k + 14, h => exact absurd h (by omega)
theorem n_C : ∀ a, a < 14 → ∀ b, b < 14 → a ≠ b → (F_C a).2.1 ≠ (F_C b).2.1 := by decide +kernel
theorem ty_C : ∀ k, k < 14 → parseFieldDescriptor (F_C k).2.2.1 = some (t_C k) := by decide +kernel
set_option maxRecDepth 10000 in
theorem i_Wr : ∀ w ∈ u_ws R_Wr F_Wr 5, w ∈ lt_T := by
  intro w hw
  obtain ⟨k, hk, rfl⟩ := List.mem_map.mp hw
  have hk := List.mem_range.mp hk
  match k, hk with
  | 0, _ => exact lt_m1 40 rfl rfl
  | 1, _ => exact lt_m1 42 rfl rfl
  | 2, _ => exact lt_m1 44 rfl rfl
  | 3, _ => exact lt_m1 46 rfl rfl
  | 4, _ => exact lt_m1 48 rfl rfl
  | k + 5, h => exact absurd h (by omega)
theorem n_Wr : ∀ a, a < 5 → ∀ b, b < 5 → a ≠ b → (F_Wr a).2.1 ≠ (F_Wr b).2.1 := by decide +kernel
theorem ty_Wr : ∀ k, k < 5 → parseFieldDescriptor (F_Wr k).2.2.1 = some (t_Wr k) := by decide +kernel
set_option maxRecDepth 10000 in
theorem i_Tx : ∀ w ∈ u_ws R_Tx F_Tx 2, w ∈ lt_T := by
  intro w hw
  obtain ⟨k, hk, rfl⟩ := List.mem_map.mp hw
  have hk := List.mem_range.mp hk
  match k, hk with
  | 0, _ => exact lt_m1 60 rfl rfl
  | 1, _ => exact lt_m1 62 rfl rfl
  | k + 2, h => exact absurd h (by omega)
theorem n_Tx : ∀ a, a < 2 → ∀ b, b < 2 → a ≠ b → (F_Tx a).2.1 ≠ (F_Tx b).2.1 := by decide +kernel
theorem ty_Tx : ∀ k, k < 2 → parseFieldDescriptor (F_Tx k).2.2.1 = some (t_Tx k) := by decide +kernel
set_option maxRecDepth 10000 in
theorem i_Ls : ∀ w ∈ u_ws R_Ls F_Ls 4, w ∈ lt_T := by
  intro w hw
  obtain ⟨k, hk, rfl⟩ := List.mem_map.mp hw
  have hk := List.mem_range.mp hk
  match k, hk with
  | 0, _ => exact lt_m1 127 rfl rfl
  | 1, _ => exact lt_m1 129 rfl rfl
  | 2, _ => exact lt_m1 131 rfl rfl
  | 3, _ => exact lt_m1 133 rfl rfl
  | k + 4, h => exact absurd h (by omega)
theorem n_Ls : ∀ a, a < 4 → ∀ b, b < 4 → a ≠ b → (F_Ls a).2.1 ≠ (F_Ls b).2.1 := by decide +kernel
theorem ty_Ls : ∀ k, k < 4 → parseFieldDescriptor (F_Ls k).2.2.1 = some (t_Ls k) := by decide +kernel
set_option maxRecDepth 10000 in
theorem i_Fo : ∀ w ∈ u_ws R_Fo F_Fo 9, w ∈ lt_T := by
  intro w hw
  obtain ⟨k, hk, rfl⟩ := List.mem_map.mp hw
  have hk := List.mem_range.mp hk
  match k, hk with
  | 0, _ => exact lt_m1 87 rfl rfl
  | 1, _ => exact lt_m1 89 rfl rfl
  | 2, _ => exact lt_m1 91 rfl rfl
  | 3, _ => exact lt_m1 93 rfl rfl
  | 4, _ => exact lt_m1 95 rfl rfl
  | 5, _ => exact lt_m1 97 rfl rfl
  | 6, _ => exact lt_m1 99 rfl rfl
  | 7, _ => exact lt_m1 101 rfl rfl
  | 8, _ => exact lt_m1 103 rfl rfl
  | k + 9, h => exact absurd h (by omega)
theorem n_Fo : ∀ a, a < 9 → ∀ b, b < 9 → a ≠ b → (F_Fo a).2.1 ≠ (F_Fo b).2.1 := by decide +kernel
theorem ty_Fo : ∀ k, k < 9 → parseFieldDescriptor (F_Fo k).2.2.1 = some (t_Fo k) := by decide +kernel
set_option maxRecDepth 10000 in
theorem i_TL : ∀ w ∈ u_ws R_TL F_TL 3, w ∈ lt_T := by
  intro w hw
  obtain ⟨k, hk, rfl⟩ := List.mem_map.mp hw
  have hk := List.mem_range.mp hk
  match k, hk with
  | 0, _ => exact lt_m1 116 rfl rfl
  | 1, _ => exact lt_m1 118 rfl rfl
  | 2, _ => exact lt_m1 120 rfl rfl
  | k + 3, h => exact absurd h (by omega)
theorem n_TL : ∀ a, a < 3 → ∀ b, b < 3 → a ≠ b → (F_TL a).2.1 ≠ (F_TL b).2.1 := by decide +kernel
theorem ty_TL : ∀ k, k < 3 → parseFieldDescriptor (F_TL k).2.2.1 = some (t_TL k) := by decide +kernel
set_option maxRecDepth 10000 in
theorem i_Ma : ∀ w ∈ u_ws R_Ma F_Ma 8, w ∈ lt_T := by
  intro w hw
  obtain ⟨k, hk, rfl⟩ := List.mem_map.mp hw
  have hk := List.mem_range.mp hk
  match k, hk with
  | 0, _ => exact lt_m1 150 rfl rfl
  | 1, _ => exact lt_m1 152 rfl rfl
  | 2, _ => exact lt_m1 154 rfl rfl
  | 3, _ => exact lt_m1 156 rfl rfl
  | 4, _ => exact lt_m1 158 rfl rfl
  | 5, _ => exact lt_m1 160 rfl rfl
  | 6, _ => exact lt_m1 162 rfl rfl
  | 7, _ => exact lt_m1 164 rfl rfl
  | k + 8, h => exact absurd h (by omega)
theorem n_Ma : ∀ a, a < 8 → ∀ b, b < 8 → a ≠ b → (F_Ma a).2.1 ≠ (F_Ma b).2.1 := by decide +kernel
theorem ty_Ma : ∀ k, k < 8 → parseFieldDescriptor (F_Ma k).2.2.1 = some (t_Ma k) := by decide +kernel
set_option maxRecDepth 10000 in
theorem i_Si : ∀ w ∈ u_ws R_Si F_Si 6, w ∈ lt_T := by
  intro w hw
  obtain ⟨k, hk, rfl⟩ := List.mem_map.mp hw
  have hk := List.mem_range.mp hk
  match k, hk with
  | 0, _ => exact lt_m1 183 rfl rfl
  | 1, _ => exact lt_m1 185 rfl rfl
  | 2, _ => exact lt_m1 187 rfl rfl
  | 3, _ => exact lt_m1 189 rfl rfl
  | 4, _ => exact lt_m1 191 rfl rfl
  | 5, _ => exact lt_m1 193 rfl rfl
  | k + 6, h => exact absurd h (by omega)
theorem n_Si : ∀ a, a < 6 → ∀ b, b < 6 → a ≠ b → (F_Si a).2.1 ≠ (F_Si b).2.1 := by decide +kernel
theorem ty_Si : ∀ k, k < 6 → parseFieldDescriptor (F_Si k).2.2.1 = some (t_Si k) := by decide +kernel
set_option maxRecDepth 10000 in
theorem i_Pr : ∀ w ∈ u_ws R_Pr F_Pr 4, w ∈ lt_T := by
  intro w hw
  obtain ⟨k, hk, rfl⟩ := List.mem_map.mp hw
  have hk := List.mem_range.mp hk
  match k, hk with
  | 0, _ => exact lt_m1 206 rfl rfl
  | 1, _ => exact lt_m1 208 rfl rfl
  | 2, _ => exact lt_m1 210 rfl rfl
  | 3, _ => exact lt_m1 212 rfl rfl
  | k + 4, h => exact absurd h (by omega)
theorem n_Pr : ∀ a, a < 4 → ∀ b, b < 4 → a ≠ b → (F_Pr a).2.1 ≠ (F_Pr b).2.1 := by decide +kernel
theorem ty_Pr : ∀ k, k < 4 → parseFieldDescriptor (F_Pr k).2.2.1 = some (t_Pr k) := by decide +kernel
set_option maxRecDepth 10000 in
theorem i_Au : ∀ w ∈ u_ws R_Au F_Au 8, w ∈ lt_T := by
  intro w hw
  obtain ⟨k, hk, rfl⟩ := List.mem_map.mp hw
  have hk := List.mem_range.mp hk
  match k, hk with
  | 0, _ => exact lt_m2 21 rfl rfl
  | 1, _ => exact lt_m2 23 rfl rfl
  | 2, _ => exact lt_m2 25 rfl rfl
  | 3, _ => exact lt_m2 27 rfl rfl
  | 4, _ => exact lt_m2 29 rfl rfl
  | 5, _ => exact lt_m2 31 rfl rfl
  | 6, _ => exact lt_m2 33 rfl rfl
  | 7, _ => exact lt_m2 35 rfl rfl
  | k + 8, h => exact absurd h (by omega)
theorem n_Au : ∀ a, a < 8 → ∀ b, b < 8 → a ≠ b → (F_Au a).2.1 ≠ (F_Au b).2.1 := by decide +kernel
theorem ty_Au : ∀ k, k < 8 → parseFieldDescriptor (F_Au k).2.2.1 = some (t_Au k) := by decide +kernel
set_option maxRecDepth 10000 in
theorem i_St : ∀ w ∈ u_ws R_St F_St 5, w ∈ lt_T := by
  intro w hw
  obtain ⟨k, hk, rfl⟩ := List.mem_map.mp hw
  have hk := List.mem_range.mp hk
  match k, hk with
  | 0, _ => exact lt_m1 238 rfl rfl
  | 1, _ => exact lt_m2 0 rfl rfl
  | 2, _ => exact lt_m2 2 rfl rfl
  | 3, _ => exact lt_m2 4 rfl rfl
  | 4, _ => exact lt_m2 6 rfl rfl
  | k + 5, h => exact absurd h (by omega)
theorem n_St : ∀ a, a < 5 → ∀ b, b < 5 → a ≠ b → (F_St a).2.1 ≠ (F_St b).2.1 := by decide +kernel
theorem ty_St : ∀ k, k < 5 → parseFieldDescriptor (F_St k).2.2.1 = some (t_St k) := by decide +kernel
set_option maxRecDepth 10000 in
theorem i_Mo : ∀ w ∈ u_ws R_Mo F_Mo 45, w ∈ lt_T := by
  intro w hw
  obtain ⟨k, hk, rfl⟩ := List.mem_map.mp hw
  have hk := List.mem_range.mp hk
  match k, hk with
  | 0, _ => exact lt_m4 195 rfl rfl
  | 1, _ => exact lt_m4 197 rfl rfl
  | 2, _ => exact lt_m4 199 rfl rfl
  | 3, _ => exact lt_m4 201 rfl rfl
  | 4, _ => exact lt_m4 203 rfl rfl
  | 5, _ => exact lt_m4 205 rfl rfl
  | 6, _ => exact lt_m4 207 rfl rfl
  | 7, _ => exact lt_m4 209 rfl rfl
  | 8, _ => exact lt_m4 211 rfl rfl
  | 9, _ => exact lt_m4 213 rfl rfl
  | 10, _ => exact lt_m4 215 rfl rfl
  | 11, _ => exact lt_m4 217 rfl rfl
  | 12, _ => exact lt_m4 219 rfl rfl
  | 13, _ => exact lt_m4 221 rfl rfl
  | 14, _ => exact lt_m4 223 rfl rfl
  | 15, _ => exact lt_m4 225 rfl rfl
  | 16, _ => exact lt_m4 227 rfl rfl
  | 17, _ => exact lt_m4 229 rfl rfl
  | 18, _ => exact lt_m4 231 rfl rfl
  | 19, _ => exact lt_m4 233 rfl rfl
  | 20, _ => exact lt_m4 235 rfl rfl
  | 21, _ => exact lt_m4 237 rfl rfl
  | 22, _ => exact lt_m4 239 rfl rfl
  | 23, _ => exact lt_m5 1 rfl rfl
  | 24, _ => exact lt_m5 3 rfl rfl
  | 25, _ => exact lt_m5 5 rfl rfl
  | 26, _ => exact lt_m5 7 rfl rfl
  | 27, _ => exact lt_m5 9 rfl rfl
  | 28, _ => exact lt_m5 11 rfl rfl
  | 29, _ => exact lt_m5 13 rfl rfl
  | 30, _ => exact lt_m5 15 rfl rfl
  | 31, _ => exact lt_m5 17 rfl rfl
  | 32, _ => exact lt_m5 19 rfl rfl
  | 33, _ => exact lt_m5 21 rfl rfl
  | 34, _ => exact lt_m5 23 rfl rfl
  | 35, _ => exact lt_m5 25 rfl rfl
  | 36, _ => exact lt_m5 27 rfl rfl
  | 37, _ => exact lt_m5 29 rfl rfl
  | 38, _ => exact lt_m5 31 rfl rfl
  | 39, _ => exact lt_m5 33 rfl rfl
  | 40, _ => exact lt_m5 35 rfl rfl
  | 41, _ => exact lt_m5 37 rfl rfl
  | 42, _ => exact lt_m5 39 rfl rfl
  | 43, _ => exact lt_m5 41 rfl rfl
  | 44, _ => exact lt_m5 43 rfl rfl
  | k + 45, h => exact absurd h (by omega)
theorem n_Mo : ∀ a, a < 45 → ∀ b, b < 45 → a ≠ b → (F_Mo a).2.1 ≠ (F_Mo b).2.1 := by decide +kernel
theorem ty_Mo : ∀ k, k < 45 → parseFieldDescriptor (F_Mo k).2.2.1 = some (t_Mo k) := by decide +kernel
theorem lt_in {ci : Nat} {C : String} {T : u_T} {N : Nat} (h : lt_cl[ci]? = some (C, T, N)) : ∀ w ∈ u_ws C T N, w ∈ lt_T := by
  match ci, h with
  | 0, h => cases h; exact i_C
  | 1, h => cases h; exact i_Wr
  | 2, h => cases h; exact i_Tx
  | 3, h => cases h; exact i_Ls
  | 4, h => cases h; exact i_Fo
  | 5, h => cases h; exact i_TL
  | 6, h => cases h; exact i_Ma
  | 7, h => cases h; exact i_Si
  | 8, h => cases h; exact i_Pr
  | 9, h => cases h; exact i_Au
  | 10, h => cases h; exact i_St
  | 11, h => cases h; exact i_Mo
  | k + 12, h => exact absurd h (by simp [lt_cl])
theorem lt_nm {ci : Nat} {C : String} {T : u_T} {N : Nat} (h : lt_cl[ci]? = some (C, T, N)) : ∀ a, a < N → ∀ b, b < N → a ≠ b → (T a).2.1 ≠ (T b).2.1 := by
  match ci, h with
  | 0, h => cases h; exact n_C
  | 1, h => cases h; exact n_Wr
  | 2, h => cases h; exact n_Tx
  | 3, h => cases h; exact n_Ls
  | 4, h => cases h; exact n_Fo
  | 5, h => cases h; exact n_TL
  | 6, h => cases h; exact n_Ma
  | 7, h => cases h; exact n_Si
  | 8, h => cases h; exact n_Pr
  | 9, h => cases h; exact n_Au
  | 10, h => cases h; exact n_St
  | 11, h => cases h; exact n_Mo
  | k + 12, h => exact absurd h (by simp [lt_cl])
theorem lt_tyok {ci : Nat} {C : String} {T : u_T} {N : Nat} (h : lt_cl[ci]? = some (C, T, N)) : ∀ k, k < N → parseFieldDescriptor (T k).2.2.1 = some (lt_ty ci k) := by
  match ci, h with
  | 0, h => cases h; exact ty_C
  | 1, h => cases h; exact ty_Wr
  | 2, h => cases h; exact ty_Tx
  | 3, h => cases h; exact ty_Ls
  | 4, h => cases h; exact ty_Fo
  | 5, h => cases h; exact ty_TL
  | 6, h => cases h; exact ty_Ma
  | 7, h => cases h; exact ty_Si
  | 8, h => cases h; exact ty_Pr
  | 9, h => cases h; exact ty_Au
  | 10, h => cases h; exact ty_St
  | 11, h => cases h; exact ty_Mo
  | k + 12, h => exact absurd h (by simp [lt_cl])
