def R_Mdo : String := "Manydoors"
def F_Mdo : u_T := fun k => match k with
  | 0 => ("Manydoors", "sheets", "[LManydoors$Sheet;", true)
  | 1 => ("Manydoors", "rolls", "[LManydoors$Roll;", true)
  | 2 => ("Manydoors", "presses", "[LManydoors$Press;", true)
  | 3 => ("Manydoors", "slots", "[LManydoors$Signs;", true)
  | 4 => ("Manydoors", "rows", "[LManydoors$Signs;", true)
  | 5 => ("Manydoors", "piece", "LManydoors$Signs;", true)
  | 6 => ("Manydoors", "spareSheet", "LManydoors$Sheet;", true)
  | 7 => ("Manydoors", "sparePress", "LManydoors$Press;", true)
  | 8 => ("Manydoors", "actsDone", "I", false)
  | 9 => ("Manydoors", "actsNotDone", "I", false)
  | _ => ("Manydoors", "knocks", "I", false)
def t_Mdo : Nat → FieldType := fun k => match k with
  | 0 => .array (.object "Manydoors$Sheet")
  | 1 => .array (.object "Manydoors$Roll")
  | 2 => .array (.object "Manydoors$Press")
  | 3 => .array (.object "Manydoors$Signs")
  | 4 => .array (.object "Manydoors$Signs")
  | 5 => .object "Manydoors$Signs"
  | 6 => .object "Manydoors$Sheet"
  | 7 => .object "Manydoors$Press"
  | 8 => .int
  | 9 => .int
  | _ => .int
theorem n_Mdo : ∀ a, a < 11 → ∀ b, b < 11 → a ≠ b → (F_Mdo a).2.1 ≠ (F_Mdo b).2.1 := by decide +kernel
theorem t_Mdo_ok : ∀ k, k < 11 → parseFieldDescriptor (F_Mdo k).2.2.1 = some (t_Mdo k) := by decide +kernel
def R_Prs : String := "Manydoors$Press"
def F_Prs : u_T := fun k => match k with
  | 0 => ("Manydoors$Press", "page", "LManydoors$Signs;", true)
  | 1 => ("Manydoors$Press", "word", "LManydoors$Signs;", true)
  | 2 => ("Manydoors$Press", "fed", "LManydoors$Signs;", true)
  | 3 => ("Manydoors$Press", "width", "I", false)
  | 4 => ("Manydoors$Press", "indent", "I", false)
  | _ => ("Manydoors$Press", "gap", "I", false)
def t_Prs : Nat → FieldType := fun k => match k with
  | 0 => .object "Manydoors$Signs"
  | 1 => .object "Manydoors$Signs"
  | 2 => .object "Manydoors$Signs"
  | 3 => .int
  | 4 => .int
  | _ => .int
theorem n_Prs : ∀ a, a < 6 → ∀ b, b < 6 → a ≠ b → (F_Prs a).2.1 ≠ (F_Prs b).2.1 := by decide +kernel
theorem t_Prs_ok : ∀ k, k < 6 → parseFieldDescriptor (F_Prs k).2.2.1 = some (t_Prs k) := by decide +kernel
def R_Rol : String := "Manydoors$Roll"
def F_Rol : u_T := fun k => match k with
  | 0 => ("Manydoors$Roll", "signs", "LManydoors$Signs;", true)
  | _ => ("Manydoors$Roll", "marked", "I", false)
def t_Rol : Nat → FieldType := fun k => match k with
  | 0 => .object "Manydoors$Signs"
  | _ => .int
theorem n_Rol : ∀ a, a < 2 → ∀ b, b < 2 → a ≠ b → (F_Rol a).2.1 ≠ (F_Rol b).2.1 := by decide +kernel
theorem t_Rol_ok : ∀ k, k < 2 → parseFieldDescriptor (F_Rol k).2.2.1 = some (t_Rol k) := by decide +kernel
def R_She : String := "Manydoors$Sheet"
def F_She : u_T := fun k => match k with
  | 0 => ("Manydoors$Sheet", "states", "[LManydoors$Signs;", true)
  | 1 => ("Manydoors$Sheet", "now", "I", false)
  | 2 => ("Manydoors$Sheet", "stepsBehind", "I", false)
  | _ => ("Manydoors$Sheet", "stepsAhead", "I", false)
def t_She : Nat → FieldType := fun k => match k with
  | 0 => .array (.object "Manydoors$Signs")
  | 1 => .int
  | 2 => .int
  | _ => .int
theorem n_She : ∀ a, a < 4 → ∀ b, b < 4 → a ≠ b → (F_She a).2.1 ≠ (F_She b).2.1 := by decide +kernel
theorem t_She_ok : ∀ k, k < 4 → parseFieldDescriptor (F_She k).2.2.1 = some (t_She k) := by decide +kernel
def R_Sig : String := "Manydoors$Signs"
def F_Sig : u_T := fun k => match k with
  | 0 => ("Manydoors$Signs", "signs", "[I", true)
  | _ => ("Manydoors$Signs", "count", "I", false)
def t_Sig : Nat → FieldType := fun k => match k with
  | 0 => .array .int
  | _ => .int
theorem n_Sig : ∀ a, a < 2 → ∀ b, b < 2 → a ≠ b → (F_Sig a).2.1 ≠ (F_Sig b).2.1 := by decide +kernel
theorem t_Sig_ok : ∀ k, k < 2 → parseFieldDescriptor (F_Sig k).2.2.1 = some (t_Sig k) := by decide +kernel
def R_Out : String := "ManydoorsLaw$Out"
def F_Out : u_T := fun k => match k with
  | 0 => ("ManydoorsLaw$Out", "n", "J", false)
  | _ => ("ManydoorsLaw$Out", "s", "Ljava/lang/String;", false)
def t_Out : Nat → FieldType := fun k => match k with
  | 0 => .long
  | _ => .object "java/lang/String"
theorem n_Out : ∀ a, a < 2 → ∀ b, b < 2 → a ≠ b → (F_Out a).2.1 ≠ (F_Out b).2.1 := by decide +kernel
theorem t_Out_ok : ∀ k, k < 2 → parseFieldDescriptor (F_Out k).2.2.1 = some (t_Out k) := by decide +kernel
def R_Mod : String := "ManydoorsModel"
def F_Mod : u_T := fun k => match k with
  | 0 => ("ManydoorsModel", "thrown", "I", false)
  | 1 => ("ManydoorsModel", "states", "[[I", true)
  | 2 => ("ManydoorsModel", "many", "[I", true)
  | 3 => ("ManydoorsModel", "at", "[I", true)
  | 4 => ("ManydoorsModel", "rolls", "[[I", true)
  | 5 => ("ManydoorsModel", "marks", "[I", true)
  | 6 => ("ManydoorsModel", "slots", "[[I", true)
  | 7 => ("ManydoorsModel", "rows", "[[I", true)
  | 8 => ("ManydoorsModel", "feds", "[[I", true)
  | 9 => ("ManydoorsModel", "widths", "[I", true)
  | 10 => ("ManydoorsModel", "indents", "[I", true)
  | 11 => ("ManydoorsModel", "done", "I", false)
  | 12 => ("ManydoorsModel", "denied", "I", false)
  | _ => ("ManydoorsModel", "knocks", "I", false)
def t_Mod : Nat → FieldType := fun k => match k with
  | 0 => .int
  | 1 => .array (.array .int)
  | 2 => .array .int
  | 3 => .array .int
  | 4 => .array (.array .int)
  | 5 => .array .int
  | 6 => .array (.array .int)
  | 7 => .array (.array .int)
  | 8 => .array (.array .int)
  | 9 => .array .int
  | 10 => .array .int
  | 11 => .int
  | 12 => .int
  | _ => .int
theorem n_Mod : ∀ a, a < 14 → ∀ b, b < 14 → a ≠ b → (F_Mod a).2.1 ≠ (F_Mod b).2.1 := by decide +kernel
theorem t_Mod_ok : ∀ k, k < 14 → parseFieldDescriptor (F_Mod k).2.2.1 = some (t_Mod k) := by decide +kernel
def R_Str : String := "java/lang/String"
def F_Str : u_T := fun k => match k with
  | 0 => ("java/lang/String", "value", "[B", true)
  | 1 => ("java/lang/String", "coder", "B", true)
  | 2 => ("java/lang/String", "hash", "I", false)
  | _ => ("java/lang/String", "hashIsZero", "Z", false)
def t_Str : Nat → FieldType := fun k => match k with
  | 0 => .array .byte
  | 1 => .byte
  | 2 => .int
  | _ => .boolean
theorem n_Str : ∀ a, a < 4 → ∀ b, b < 4 → a ≠ b → (F_Str a).2.1 ≠ (F_Str b).2.1 := by decide +kernel
theorem t_Str_ok : ∀ k, k < 4 → parseFieldDescriptor (F_Str k).2.2.1 = some (t_Str k) := by decide +kernel
/-- the classes whose objects a world holds, by number -/
def jcl : List vw_C := [(R_Mdo, F_Mdo, 11), (R_Prs, F_Prs, 6), (R_Rol, F_Rol, 2), (R_She, F_She, 4), (R_Sig, F_Sig, 2), (R_Out, F_Out, 2), (R_Mod, F_Mod, 14), (R_Str, F_Str, 4)]
def jct : List (Nat → FieldType) := [t_Mdo, t_Prs, t_Rol, t_She, t_Sig, t_Out, t_Mod, t_Str]
