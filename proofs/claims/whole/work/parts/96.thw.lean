/-! THE WORDS OF A THROW STAND IN THE TABLES -/
def th_r1 : Cond := .isRef (.static "java/lang/Throwable" "UNASSIGNED_STACK" "[Ljava/lang/StackTraceElement;")
def th_r2 : Cond := .isRef (.static "java/lang/Throwable" "SUPPRESSED_SENTINEL" "Ljava/util/List;")
def th_s1 : Cond := .laysStatic "java/lang/Throwable" "UNASSIGNED_STACK" "[Ljava/lang/StackTraceElement;"
def th_s2 : Cond := .laysStatic "java/lang/Throwable" "SUPPRESSED_SENTINEL" "Ljava/util/List;"
def th_ok (w : Cond) : Bool := decide (w ∈ tables_1) || decide (w = th_r1) || decide (w = th_r2)
def th_kd (w : Cond) : Bool := (w.onTables && w.keepsFace) || decide (w = th_r1) || decide (w = th_r2) || decide (w = th_s1) || decide (w = th_s2)
set_option maxRecDepth 100000 in
theorem th_in1 : (Bundle.ownAtoms "LinearSearch" 89 (th_E 89) th_chain).all th_ok = true := by decide +kernel
set_option maxRecDepth 100000 in
theorem th_in2 : (Bundle.ownAtoms "LinearSearch" 114 (th_E 114) th_chain).all th_ok = true := by decide +kernel
set_option maxRecDepth 100000 in
theorem th_in3 : (Bundle.ownAtoms "LinearSearch" 131 (th_E 131) th_chain).all th_ok = true := by decide +kernel
set_option maxRecDepth 100000 in
theorem th_kd0 : th_ws.all th_kd = true := by decide +kernel
