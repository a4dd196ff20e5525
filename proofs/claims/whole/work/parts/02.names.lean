/-! names: classes (0 Entry, 1 Layer, 2 Path, 3 Tree, 4 TreeChanges, 5 TreeChangesModel), their fields, the words of the tables; by program (wip/tools/gen02.py) -/
def tc_R0 : String := "TreeChanges$Entry"
def tc_T0 : u_T := fun k => match k with
  | 0 => ("TreeChanges$Entry", "path", "LTreeChanges$Path;", true)
  | 1 => ("TreeChanges$Entry", "kind", "I", false)
  | 2 => ("TreeChanges$Entry", "bytes", "[B", true)
  | _ => ("TreeChanges$Entry", "size", "I", false)
def tc_Y0 : Nat → FieldType := fun k => match k with
  | 0 => .object "TreeChanges$Path"
  | 1 => .int
  | 2 => .array .byte
  | _ => .int
theorem tc_nm0 : ∀ a, a < 4 → ∀ b, b < 4 → a ≠ b → (tc_T0 a).2.1 ≠ (tc_T0 b).2.1 := by decide +kernel
theorem tc_ok0 : ∀ k, k < 4 → parseFieldDescriptor (tc_T0 k).2.2.1 = some (tc_Y0 k) := by decide +kernel
def tc_R1 : String := "TreeChanges$Layer"
def tc_T1 : u_T := fun k => match k with
  | 0 => ("TreeChanges$Layer", "bytes", "[B", true)
  | 1 => ("TreeChanges$Layer", "length", "I", false)
  | _ => ("TreeChanges$Layer", "items", "I", false)
def tc_Y1 : Nat → FieldType := fun k => match k with
  | 0 => .array .byte
  | 1 => .int
  | _ => .int
theorem tc_nm1 : ∀ a, a < 3 → ∀ b, b < 3 → a ≠ b → (tc_T1 a).2.1 ≠ (tc_T1 b).2.1 := by decide +kernel
theorem tc_ok1 : ∀ k, k < 3 → parseFieldDescriptor (tc_T1 k).2.2.1 = some (tc_Y1 k) := by decide +kernel
def tc_R2 : String := "TreeChanges$Path"
def tc_T2 : u_T := fun k => match k with
  | 0 => ("TreeChanges$Path", "signs", "[B", true)
  | _ => ("TreeChanges$Path", "length", "I", false)
def tc_Y2 : Nat → FieldType := fun k => match k with
  | 0 => .array .byte
  | _ => .int
theorem tc_nm2 : ∀ a, a < 2 → ∀ b, b < 2 → a ≠ b → (tc_T2 a).2.1 ≠ (tc_T2 b).2.1 := by decide +kernel
theorem tc_ok2 : ∀ k, k < 2 → parseFieldDescriptor (tc_T2 k).2.2.1 = some (tc_Y2 k) := by decide +kernel
def tc_R3 : String := "TreeChanges$Tree"
def tc_T3 : u_T := fun k => match k with
  | 0 => ("TreeChanges$Tree", "rows", "[LTreeChanges$Entry;", true)
  | _ => ("TreeChanges$Tree", "count", "I", false)
def tc_Y3 : Nat → FieldType := fun k => match k with
  | 0 => .array (.object "TreeChanges$Entry")
  | _ => .int
theorem tc_nm3 : ∀ a, a < 2 → ∀ b, b < 2 → a ≠ b → (tc_T3 a).2.1 ≠ (tc_T3 b).2.1 := by decide +kernel
theorem tc_ok3 : ∀ k, k < 2 → parseFieldDescriptor (tc_T3 k).2.2.1 = some (tc_Y3 k) := by decide +kernel
def tc_R4 : String := "TreeChanges"
def tc_T4 : u_T := fun k => match k with
  | 0 => ("TreeChanges", "tree0", "LTreeChanges$Tree;", true)
  | 1 => ("TreeChanges", "tree1", "LTreeChanges$Tree;", true)
  | 2 => ("TreeChanges", "trial", "LTreeChanges$Tree;", true)
  | 3 => ("TreeChanges", "thePath", "LTreeChanges$Path;", true)
  | 4 => ("TreeChanges", "otherPath", "LTreeChanges$Path;", true)
  | 5 => ("TreeChanges", "item", "LTreeChanges$Entry;", true)
  | _ => ("TreeChanges", "theLayer", "LTreeChanges$Layer;", true)
def tc_Y4 : Nat → FieldType := fun k => match k with
  | 0 => .object "TreeChanges$Tree"
  | 1 => .object "TreeChanges$Tree"
  | 2 => .object "TreeChanges$Tree"
  | 3 => .object "TreeChanges$Path"
  | 4 => .object "TreeChanges$Path"
  | 5 => .object "TreeChanges$Entry"
  | _ => .object "TreeChanges$Layer"
theorem tc_nm4 : ∀ a, a < 7 → ∀ b, b < 7 → a ≠ b → (tc_T4 a).2.1 ≠ (tc_T4 b).2.1 := by decide +kernel
theorem tc_ok4 : ∀ k, k < 7 → parseFieldDescriptor (tc_T4 k).2.2.1 = some (tc_Y4 k) := by decide +kernel
def tc_R5 : String := "TreeChangesModel"
def tc_T5 : u_T := fun k => match k with
  | 0 => ("TreeChangesModel", "thrown", "I", false)
  | 1 => ("TreeChangesModel", "signs", "[I", true)
  | 2 => ("TreeChangesModel", "lengths", "[I", true)
  | 3 => ("TreeChangesModel", "counts", "[I", true)
  | 4 => ("TreeChangesModel", "kinds", "[I", true)
  | 5 => ("TreeChangesModel", "sizes", "[I", true)
  | 6 => ("TreeChangesModel", "bytes", "[I", true)
  | 7 => ("TreeChangesModel", "layer", "[I", true)
  | _ => ("TreeChangesModel", "used", "I", false)
def tc_Y5 : Nat → FieldType := fun k => match k with
  | 0 => .int
  | 1 => .array .int
  | 2 => .array .int
  | 3 => .array .int
  | 4 => .array .int
  | 5 => .array .int
  | 6 => .array .int
  | 7 => .array .int
  | _ => .int
theorem tc_nm5 : ∀ a, a < 9 → ∀ b, b < 9 → a ≠ b → (tc_T5 a).2.1 ≠ (tc_T5 b).2.1 := by decide +kernel
theorem tc_ok5 : ∀ k, k < 9 → parseFieldDescriptor (tc_T5 k).2.2.1 = some (tc_Y5 k) := by decide +kernel
abbrev tc_cl : List vw_C := [(tc_R0, tc_T0, 4), (tc_R1, tc_T1, 3), (tc_R2, tc_T2, 2), (tc_R3, tc_T3, 2), (tc_R4, tc_T4, 7), (tc_R5, tc_T5, 9)]
/-- a word that stays true while the machine warms up -/
def tc_wk (w : Cond) : Bool := match w with
  | .arrayClass _ => true
  | .fieldLinkNest .. => true
  | .methodLinkNest .. => true
  | .declares _ => true
  | .castable .. => true
  | w => w.onTables && w.keeps
theorem tc_wk_at {args a' : Array Value} {s U : State} (hW : s.WarmedH U.vm) {w : Cond} (hg : tc_wk w = true) (h : w.before args s = true) : w.before a' U = true := by
  cases w with
  | fieldLinkNest a i b n d q => exact va_Nw.use rfl (va_Nw.warmF hW (va_Nw.of rfl h))
  | methodLinkNest a i x q => exact va_Nw.use rfl (va_Nw.warmM hW (va_Nw.of rfl h))
  | declares x => exact va_Nw.use rfl (va_Nw.warmD hW (va_Nw.of rfl h))
  | castable x y => exact va_Nw.use rfl (va_Nw.warmC hW (va_Nw.of rfl h))
  | arrayClass t => exact word_at hW (Or.inr ⟨_, rfl⟩) h
  | _ => exact word_at hW (Or.inl hg) h
def tc_TB : List Cond := lw_tbl.filter tc_wk
theorem tc_mem {w : Cond} (n : Nat) (h : lw_tbl[n]? = some w) (g : tc_wk w = true) : w ∈ tc_TB := List.mem_filter.mpr ⟨List.mem_of_getElem? h, g⟩
