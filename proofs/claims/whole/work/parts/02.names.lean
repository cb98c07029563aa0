def q_tbl : List Cond := lw_tbl.filter goodWord
theorem q_mem {w : Cond} (h : w ∈ lw_tbl) (g : goodWord w = true) : w ∈ q_tbl := List.mem_filter.mpr ⟨h, g⟩
theorem q_sub {w : Cond} (h : w ∈ q_tbl) : w ∈ lw_tbl := (List.mem_filter.mp h).1
def R_PC : String := "PlanClauses"
def F_PC : u_T := fun k => match k with
  | 0 => ("PlanClauses", "formula", "LPlanClauses$Formula;", true)
  | 1 => ("PlanClauses", "found", "LPlanClauses$Models;", true)
  | 2 => ("PlanClauses", "task", "LPlanClauses$Task;", true)
  | _ => ("PlanClauses", "told", "LPlanClauses$Code;", true)
def t_PC : Nat → FieldType := fun k => match k with
  | 0 => .object "PlanClauses$Formula"
  | 1 => .object "PlanClauses$Models"
  | 2 => .object "PlanClauses$Task"
  | _ => .object "PlanClauses$Code"
theorem n_PC : ∀ a, a < 4 → ∀ b, b < 4 → a ≠ b → (F_PC a).2.1 ≠ (F_PC b).2.1 := by decide +kernel
theorem t_PC_ok : ∀ k, k < 4 → parseFieldDescriptor (F_PC k).2.2.1 = some (t_PC k) := by decide +kernel
theorem i_PC : ∀ w ∈ u_ws R_PC F_PC 4, w ∈ q_tbl := by decide +kernel
def R_Form : String := "PlanClauses$Formula"
def F_Form : u_T := fun k => match k with
  | 0 => ("PlanClauses$Formula", "width", "I", false)
  | 1 => ("PlanClauses$Formula", "draftSize", "I", false)
  | 2 => ("PlanClauses$Formula", "draft", "[I", true)
  | 3 => ("PlanClauses$Formula", "literals", "[I", true)
  | 4 => ("PlanClauses$Formula", "sizes", "[I", true)
  | _ => ("PlanClauses$Formula", "rows", "LPlanClauses$Rows;", true)
def t_Form : Nat → FieldType := fun k => match k with
  | 0 => .int
  | 1 => .int
  | 2 => .array .int
  | 3 => .array .int
  | 4 => .array .int
  | _ => .object "PlanClauses$Rows"
theorem n_Form : ∀ a, a < 6 → ∀ b, b < 6 → a ≠ b → (F_Form a).2.1 ≠ (F_Form b).2.1 := by decide +kernel
theorem t_Form_ok : ∀ k, k < 6 → parseFieldDescriptor (F_Form k).2.2.1 = some (t_Form k) := by decide +kernel
theorem i_Form : ∀ w ∈ u_ws R_Form F_Form 6, w ∈ q_tbl := by decide +kernel
def R_Rows : String := "PlanClauses$Rows"
def F_Rows : u_T := fun k => match k with
  | 0 => ("PlanClauses$Rows", "wantTrue", "[I", true)
  | 1 => ("PlanClauses$Rows", "wantFalse", "[I", true)
  | 2 => ("PlanClauses$Rows", "size", "I", false)
  | _ => ("PlanClauses$Rows", "oldest", "I", false)
def t_Rows : Nat → FieldType := fun k => match k with
  | 0 => .array .int
  | 1 => .array .int
  | 2 => .int
  | _ => .int
theorem n_Rows : ∀ a, a < 4 → ∀ b, b < 4 → a ≠ b → (F_Rows a).2.1 ≠ (F_Rows b).2.1 := by decide +kernel
theorem t_Rows_ok : ∀ k, k < 4 → parseFieldDescriptor (F_Rows k).2.2.1 = some (t_Rows k) := by decide +kernel
theorem i_Rows : ∀ w ∈ u_ws R_Rows F_Rows 4, w ∈ q_tbl := by decide +kernel
def R_Mods : String := "PlanClauses$Models"
def F_Mods : u_T := fun k => match k with
  | 0 => ("PlanClauses$Models", "formula", "LPlanClauses$Formula;", true)
  | 1 => ("PlanClauses$Models", "search", "LPlanClauses$Search;", true)
  | 2 => ("PlanClauses$Models", "rows", "[I", true)
  | 3 => ("PlanClauses$Models", "size", "I", false)
  | 4 => ("PlanClauses$Models", "seenTrue", "I", false)
  | 5 => ("PlanClauses$Models", "seenFalse", "I", false)
  | 6 => ("PlanClauses$Models", "begun", "Z", false)
  | _ => ("PlanClauses$Models", "complete", "Z", false)
def t_Mods : Nat → FieldType := fun k => match k with
  | 0 => .object "PlanClauses$Formula"
  | 1 => .object "PlanClauses$Search"
  | 2 => .array .int
  | 3 => .int
  | 4 => .int
  | 5 => .int
  | 6 => .boolean
  | _ => .boolean
theorem n_Mods : ∀ a, a < 8 → ∀ b, b < 8 → a ≠ b → (F_Mods a).2.1 ≠ (F_Mods b).2.1 := by decide +kernel
theorem t_Mods_ok : ∀ k, k < 8 → parseFieldDescriptor (F_Mods k).2.2.1 = some (t_Mods k) := by decide +kernel
theorem i_Mods : ∀ w ∈ u_ws R_Mods F_Mods 8, w ∈ q_tbl := by decide +kernel
def R_Sear : String := "PlanClauses$Search"
def F_Sear : u_T := fun k => match k with
  | 0 => ("PlanClauses$Search", "formula", "LPlanClauses$Formula;", true)
  | 1 => ("PlanClauses$Search", "learned", "LPlanClauses$Rows;", true)
  | 2 => ("PlanClauses$Search", "trail", "LPlanClauses$Trail;", true)
  | 3 => ("PlanClauses$Search", "weights", "[I", true)
  | 4 => ("PlanClauses$Search", "clauses", "I", false)
  | 5 => ("PlanClauses$Search", "clashTrue", "I", false)
  | 6 => ("PlanClauses$Search", "clashFalse", "I", false)
  | _ => ("PlanClauses$Search", "ended", "Z", false)
def t_Sear : Nat → FieldType := fun k => match k with
  | 0 => .object "PlanClauses$Formula"
  | 1 => .object "PlanClauses$Rows"
  | 2 => .object "PlanClauses$Trail"
  | 3 => .array .int
  | 4 => .int
  | 5 => .int
  | 6 => .int
  | _ => .boolean
theorem n_Sear : ∀ a, a < 8 → ∀ b, b < 8 → a ≠ b → (F_Sear a).2.1 ≠ (F_Sear b).2.1 := by decide +kernel
theorem t_Sear_ok : ∀ k, k < 8 → parseFieldDescriptor (F_Sear k).2.2.1 = some (t_Sear k) := by decide +kernel
theorem i_Sear : ∀ w ∈ u_ws R_Sear F_Sear 8, w ∈ q_tbl := by decide +kernel
def R_Trail : String := "PlanClauses$Trail"
def F_Trail : u_T := fun k => match k with
  | 0 => ("PlanClauses$Trail", "trues", "I", false)
  | 1 => ("PlanClauses$Trail", "falses", "I", false)
  | 2 => ("PlanClauses$Trail", "length", "I", false)
  | 3 => ("PlanClauses$Trail", "level", "I", false)
  | 4 => ("PlanClauses$Trail", "order", "[I", true)
  | 5 => ("PlanClauses$Trail", "whyTrue", "[I", true)
  | 6 => ("PlanClauses$Trail", "whyFalse", "[I", true)
  | _ => ("PlanClauses$Trail", "ahead", "[I", true)
def t_Trail : Nat → FieldType := fun k => match k with
  | 0 => .int
  | 1 => .int
  | 2 => .int
  | 3 => .int
  | 4 => .array .int
  | 5 => .array .int
  | 6 => .array .int
  | _ => .array .int
theorem n_Trail : ∀ a, a < 8 → ∀ b, b < 8 → a ≠ b → (F_Trail a).2.1 ≠ (F_Trail b).2.1 := by decide +kernel
theorem t_Trail_ok : ∀ k, k < 8 → parseFieldDescriptor (F_Trail k).2.2.1 = some (t_Trail k) := by decide +kernel
theorem i_Trail : ∀ w ∈ u_ws R_Trail F_Trail 8, w ∈ q_tbl := by decide +kernel
def R_Task : String := "PlanClauses$Task"
def F_Task : u_T := fun k => match k with
  | 0 => ("PlanClauses$Task", "factCount", "I", false)
  | 1 => ("PlanClauses$Task", "actionCount", "I", false)
  | 2 => ("PlanClauses$Task", "beginning", "I", false)
  | 3 => ("PlanClauses$Task", "goal", "I", false)
  | 4 => ("PlanClauses$Task", "asks", "[I", true)
  | 5 => ("PlanClauses$Task", "adds", "[I", true)
  | 6 => ("PlanClauses$Task", "takes", "[I", true)
  | 7 => ("PlanClauses$Task", "ways", "[I", true)
  | _ => ("PlanClauses$Task", "counted", "Z", false)
def t_Task : Nat → FieldType := fun k => match k with
  | 0 => .int
  | 1 => .int
  | 2 => .int
  | 3 => .int
  | 4 => .array .int
  | 5 => .array .int
  | 6 => .array .int
  | 7 => .array .int
  | _ => .boolean
theorem n_Task : ∀ a, a < 9 → ∀ b, b < 9 → a ≠ b → (F_Task a).2.1 ≠ (F_Task b).2.1 := by decide +kernel
theorem t_Task_ok : ∀ k, k < 9 → parseFieldDescriptor (F_Task k).2.2.1 = some (t_Task k) := by decide +kernel
theorem i_Task : ∀ w ∈ u_ws R_Task F_Task 9, w ∈ q_tbl := by decide +kernel
def R_Code : String := "PlanClauses$Code"
def F_Code : u_T := fun k => match k with
  | 0 => ("PlanClauses$Code", "task", "LPlanClauses$Task;", true)
  | 1 => ("PlanClauses$Code", "literals", "[I", true)
  | 2 => ("PlanClauses$Code", "starts", "[I", true)
  | 3 => ("PlanClauses$Code", "clauseCount", "I", false)
  | 4 => ("PlanClauses$Code", "literalCount", "I", false)
  | 5 => ("PlanClauses$Code", "steps", "I", false)
  | _ => ("PlanClauses$Code", "told", "Z", false)
def t_Code : Nat → FieldType := fun k => match k with
  | 0 => .object "PlanClauses$Task"
  | 1 => .array .int
  | 2 => .array .int
  | 3 => .int
  | 4 => .int
  | 5 => .int
  | _ => .boolean
theorem n_Code : ∀ a, a < 7 → ∀ b, b < 7 → a ≠ b → (F_Code a).2.1 ≠ (F_Code b).2.1 := by decide +kernel
theorem t_Code_ok : ∀ k, k < 7 → parseFieldDescriptor (F_Code k).2.2.1 = some (t_Code k) := by decide +kernel
theorem i_Code : ∀ w ∈ u_ws R_Code F_Code 7, w ∈ q_tbl := by decide +kernel
def R_Ref : String := "PlanClausesModel"
def F_Ref : u_T := fun k => match k with
  | 0 => ("PlanClausesModel", "variables", "I", false)
  | 1 => ("PlanClausesModel", "clauses", "I", false)
  | 2 => ("PlanClausesModel", "literals", "[I", true)
  | 3 => ("PlanClausesModel", "sizes", "[I", true)
  | 4 => ("PlanClausesModel", "told", "[I", true)
  | 5 => ("PlanClausesModel", "toldNot", "[I", true)
  | 6 => ("PlanClausesModel", "drafted", "I", false)
  | 7 => ("PlanClausesModel", "draft", "[I", true)
  | 8 => ("PlanClausesModel", "isKnown", "Z", false)
  | 9 => ("PlanClausesModel", "many", "I", false)
  | 10 => ("PlanClausesModel", "found", "[I", true)
  | 11 => ("PlanClausesModel", "facts", "I", false)
  | 12 => ("PlanClausesModel", "actions", "I", false)
  | 13 => ("PlanClausesModel", "asks", "[I", true)
  | 14 => ("PlanClausesModel", "adds", "[I", true)
  | 15 => ("PlanClausesModel", "takes", "[I", true)
  | 16 => ("PlanClausesModel", "beginning", "I", false)
  | 17 => ("PlanClausesModel", "goal", "I", false)
  | 18 => ("PlanClausesModel", "isTrue", "I", false)
  | 19 => ("PlanClausesModel", "isFalse", "I", false)
  | 20 => ("PlanClausesModel", "keptTrue", "[I", true)
  | 21 => ("PlanClausesModel", "keptFalse", "[I", true)
  | 22 => ("PlanClausesModel", "triedTrue", "[I", true)
  | 23 => ("PlanClausesModel", "triedFalse", "[I", true)
  | 24 => ("PlanClausesModel", "shortest1", "I", false)
  | 25 => ("PlanClausesModel", "backYes", "I", false)
  | 26 => ("PlanClausesModel", "backNo", "I", false)
  | 27 => ("PlanClausesModel", "ways", "[I", true)
  | 28 => ("PlanClausesModel", "did", "I", false)
  | 29 => ("PlanClausesModel", "stood", "I", false)
  | 30 => ("PlanClausesModel", "codedClauses", "I", false)
  | 31 => ("PlanClausesModel", "codedLiterals", "I", false)
  | 32 => ("PlanClausesModel", "wanted", "I", false)
  | 33 => ("PlanClausesModel", "wantedSize", "I", false)
  | 34 => ("PlanClausesModel", "kept", "[I", true)
  | _ => ("PlanClausesModel", "inHand", "I", false)
def t_Ref : Nat → FieldType := fun k => match k with
  | 0 => .int
  | 1 => .int
  | 2 => .array .int
  | 3 => .array .int
  | 4 => .array .int
  | 5 => .array .int
  | 6 => .int
  | 7 => .array .int
  | 8 => .boolean
  | 9 => .int
  | 10 => .array .int
  | 11 => .int
  | 12 => .int
  | 13 => .array .int
  | 14 => .array .int
  | 15 => .array .int
  | 16 => .int
  | 17 => .int
  | 18 => .int
  | 19 => .int
  | 20 => .array .int
  | 21 => .array .int
  | 22 => .array .int
  | 23 => .array .int
  | 24 => .int
  | 25 => .int
  | 26 => .int
  | 27 => .array .int
  | 28 => .int
  | 29 => .int
  | 30 => .int
  | 31 => .int
  | 32 => .int
  | 33 => .int
  | 34 => .array .int
  | _ => .int
theorem n_Ref : ∀ a, a < 36 → ∀ b, b < 36 → a ≠ b → (F_Ref a).2.1 ≠ (F_Ref b).2.1 := by decide +kernel
theorem t_Ref_ok : ∀ k, k < 36 → parseFieldDescriptor (F_Ref k).2.2.1 = some (t_Ref k) := by decide +kernel
theorem i_Ref : ∀ w ∈ u_ws R_Ref F_Ref 36, w ∈ q_tbl := by decide +kernel
abbrev classes : List vw_C := [("PlanClauses", F_PC, 4), ("PlanClauses$Formula", F_Form, 6), ("PlanClauses$Rows", F_Rows, 4), ("PlanClauses$Models", F_Mods, 8), ("PlanClauses$Search", F_Sear, 8), ("PlanClauses$Trail", F_Trail, 8), ("PlanClauses$Task", F_Task, 9), ("PlanClauses$Code", F_Code, 7), ("PlanClausesModel", F_Ref, 36)]
theorem hc_0 : classes[0]? = some ("PlanClauses", F_PC, 4) := rfl
theorem hc_1 : classes[1]? = some ("PlanClauses$Formula", F_Form, 6) := rfl
theorem hc_2 : classes[2]? = some ("PlanClauses$Rows", F_Rows, 4) := rfl
theorem hc_3 : classes[3]? = some ("PlanClauses$Models", F_Mods, 8) := rfl
theorem hc_4 : classes[4]? = some ("PlanClauses$Search", F_Sear, 8) := rfl
theorem hc_5 : classes[5]? = some ("PlanClauses$Trail", F_Trail, 8) := rfl
theorem hc_6 : classes[6]? = some ("PlanClauses$Task", F_Task, 9) := rfl
theorem hc_7 : classes[7]? = some ("PlanClauses$Code", F_Code, 7) := rfl
theorem hc_8 : classes[8]? = some ("PlanClausesModel", F_Ref, 36) := rfl
theorem q_in : ∀ {ci : Nat} {C : String} {T : u_T} {N : Nat}, classes[ci]? = some (C, T, N) → ∀ w ∈ u_ws C T N, w ∈ q_tbl := by
  intro ci C T N h
  match ci, h with
  | 0, h => cases h; exact i_PC
  | 1, h => cases h; exact i_Form
  | 2, h => cases h; exact i_Rows
  | 3, h => cases h; exact i_Mods
  | 4, h => cases h; exact i_Sear
  | 5, h => cases h; exact i_Trail
  | 6, h => cases h; exact i_Task
  | 7, h => cases h; exact i_Code
  | 8, h => cases h; exact i_Ref
  | k + 9, h => simp [classes] at h
theorem q_ty : ∀ {ci : Nat} {C : String} {T : u_T} {N : Nat}, classes[ci]? = some (C, T, N) → ∃ ty0 : Nat → FieldType, ∀ k, k < N → parseFieldDescriptor (T k).2.2.1 = some (ty0 k) := by
  intro ci C T N h
  match ci, h with
  | 0, h => cases h; exact ⟨t_PC, t_PC_ok⟩
  | 1, h => cases h; exact ⟨t_Form, t_Form_ok⟩
  | 2, h => cases h; exact ⟨t_Rows, t_Rows_ok⟩
  | 3, h => cases h; exact ⟨t_Mods, t_Mods_ok⟩
  | 4, h => cases h; exact ⟨t_Sear, t_Sear_ok⟩
  | 5, h => cases h; exact ⟨t_Trail, t_Trail_ok⟩
  | 6, h => cases h; exact ⟨t_Task, t_Task_ok⟩
  | 7, h => cases h; exact ⟨t_Code, t_Code_ok⟩
  | 8, h => cases h; exact ⟨t_Ref, t_Ref_ok⟩
  | k + 9, h => simp [classes] at h
theorem q_nm : ∀ {ci : Nat} {C : String} {T : u_T} {N : Nat}, classes[ci]? = some (C, T, N) → ∀ a, a < N → ∀ b, b < N → a ≠ b → (T a).2.1 ≠ (T b).2.1 := by
  intro ci C T N h
  match ci, h with
  | 0, h => cases h; exact n_PC
  | 1, h => cases h; exact n_Form
  | 2, h => cases h; exact n_Rows
  | 3, h => cases h; exact n_Mods
  | 4, h => cases h; exact n_Sear
  | 5, h => cases h; exact n_Trail
  | 6, h => cases h; exact n_Task
  | 7, h => cases h; exact n_Code
  | 8, h => cases h; exact n_Ref
  | k + 9, h => simp [classes] at h
