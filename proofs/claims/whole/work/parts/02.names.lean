/-! own names: the words that all methods share, the classes' tables -/
def xt_good (w : Cond) : Bool := (w.onTables && w.keeps) || (match w with
  | .arrayClass _ => true
  | _ => false)
def xt : List Cond := lw_tbl.filter xt_good
theorem xt_in {w : Cond} (n : Nat) (h : tables_1[n]? = some w) (hg : xt_good w = true) : w ∈ xt := List.mem_filter.mpr ⟨List.mem_append_right _ (List.mem_of_getElem? h), hg⟩
theorem xt_sel {w : Cond} (n : Nat) (h : (k2_sels lw_privs)[n]? = some w) (hg : xt_good w = true) : w ∈ xt := List.mem_filter.mpr ⟨List.mem_append_left _ (List.mem_of_getElem? h), hg⟩
def xstr : List (String × Nat × String) := [("DomainDesk", 172, "an argument is not one of those allowed"), ("DomainDesk", 177, "the desk is not in a state for this call"), ("DomainDesk", 182, "there would be more than there may be"), ("DomainDesk", 165, "there is none of this number")]
def RC0 : String := "java/util/ArrayList"
def TC0 : u_T := fun k => match k with
  | 0 => ("java/util/ArrayList", "elementData", "[Ljava/lang/Object;", false)
  | 1 => ("java/util/ArrayList", "size", "I", false)
  | _ => ("java/util/AbstractList", "modCount", "I", false)
def tyC0 : Nat → FieldType := fun k => match k with
  | 0 => .array (.object "java/lang/Object")
  | 1 => .int
  | _ => .int
theorem nmC0 : ∀ a, a < 3 → ∀ b, b < 3 → a ≠ b → (TC0 a).2.1 ≠ (TC0 b).2.1 := by decide +kernel
theorem tyC0_ok : ∀ k, k < 3 → parseFieldDescriptor (TC0 k).2.2.1 = some (tyC0 k) := by decide +kernel
theorem wC0 : ∀ w ∈ u_ws RC0 TC0 3, w ∈ xt := by decide +kernel
def RC1 : String := "DomainDesk"
def TC1 : u_T := fun k => match k with
  | 0 => ("DomainDesk", "constraints", "Ljava/util/ArrayList;", true)
  | 1 => ("DomainDesk", "levels", "[[I", true)
  | 2 => ("DomainDesk", "draft", "[I", true)
  | 3 => ("DomainDesk", "chosen", "[I", true)
  | 4 => ("DomainDesk", "solutionValues", "[I", true)
  | 5 => ("DomainDesk", "solutionCount", "I", false)
  | 6 => ("DomainDesk", "variableCount", "I", false)
  | _ => ("DomainDesk", "level", "I", false)
def tyC1 : Nat → FieldType := fun k => match k with
  | 0 => .object "java/util/ArrayList"
  | 1 => .array (.array .int)
  | 2 => .array .int
  | 3 => .array .int
  | 4 => .array .int
  | 5 => .int
  | 6 => .int
  | _ => .int
theorem nmC1 : ∀ a, a < 8 → ∀ b, b < 8 → a ≠ b → (TC1 a).2.1 ≠ (TC1 b).2.1 := by decide +kernel
theorem tyC1_ok : ∀ k, k < 8 → parseFieldDescriptor (TC1 k).2.2.1 = some (tyC1 k) := by decide +kernel
theorem wC1 : ∀ w ∈ u_ws RC1 TC1 8, w ∈ xt := by decide +kernel
def RC2 : String := "DomainDesk$Relation"
def TC2 : u_T := fun k => match k with
  | 0 => ("DomainDesk$Relation", "x", "I", true)
  | 1 => ("DomainDesk$Relation", "y", "I", true)
  | 2 => ("DomainDesk$Relation", "partners", "[I", true)
  | 3 => ("DomainDesk$Relation", "partnersOfY", "[I", true)
  | _ => ("DomainDesk$Constraint", "members", "I", true)
def tyC2 : Nat → FieldType := fun k => match k with
  | 0 => .int
  | 1 => .int
  | 2 => .array .int
  | 3 => .array .int
  | _ => .int
theorem nmC2 : ∀ a, a < 5 → ∀ b, b < 5 → a ≠ b → (TC2 a).2.1 ≠ (TC2 b).2.1 := by decide +kernel
theorem tyC2_ok : ∀ k, k < 5 → parseFieldDescriptor (TC2 k).2.2.1 = some (tyC2 k) := by decide +kernel
theorem wC2 : ∀ w ∈ u_ws RC2 TC2 5, w ∈ xt := by decide +kernel
def RC3 : String := "DomainDesk$Operation"
def TC3 : u_T := fun k => match k with
  | 0 => ("DomainDesk$Operation", "x", "I", true)
  | 1 => ("DomainDesk$Operation", "y", "I", true)
  | 2 => ("DomainDesk$Operation", "z", "I", true)
  | 3 => ("DomainDesk$Operation", "results", "[I", true)
  | 4 => ("DomainDesk$Operation", "operands", "[I", true)
  | _ => ("DomainDesk$Constraint", "members", "I", true)
def tyC3 : Nat → FieldType := fun k => match k with
  | 0 => .int
  | 1 => .int
  | 2 => .int
  | 3 => .array .int
  | 4 => .array .int
  | _ => .int
theorem nmC3 : ∀ a, a < 6 → ∀ b, b < 6 → a ≠ b → (TC3 a).2.1 ≠ (TC3 b).2.1 := by decide +kernel
theorem tyC3_ok : ∀ k, k < 6 → parseFieldDescriptor (TC3 k).2.2.1 = some (tyC3 k) := by decide +kernel
theorem wC3 : ∀ w ∈ u_ws RC3 TC3 6, w ∈ xt := by decide +kernel
def RC4 : String := "DomainDesk$AllDifferent"
def TC4 : u_T := fun k => match k with
  | _ => ("DomainDesk$Constraint", "members", "I", true)
def tyC4 : Nat → FieldType := fun k => match k with
  | _ => .int
theorem nmC4 : ∀ a, a < 1 → ∀ b, b < 1 → a ≠ b → (TC4 a).2.1 ≠ (TC4 b).2.1 := by decide +kernel
theorem tyC4_ok : ∀ k, k < 1 → parseFieldDescriptor (TC4 k).2.2.1 = some (tyC4 k) := by decide +kernel
theorem wC4 : ∀ w ∈ u_ws RC4 TC4 1, w ∈ xt := by decide +kernel
def RC5 : String := "DomainDeskModel"
def TC5 : u_T := fun k => match k with
  | 0 => ("DomainDeskModel", "fault", "I", false)
  | 1 => ("DomainDeskModel", "variables", "I", false)
  | 2 => ("DomainDeskModel", "firstDomain", "[I", true)
  | 3 => ("DomainDeskModel", "constraints", "I", false)
  | 4 => ("DomainDeskModel", "sort", "[I", true)
  | 5 => ("DomainDeskModel", "kind", "[I", true)
  | 6 => ("DomainDeskModel", "one", "[I", true)
  | 7 => ("DomainDeskModel", "two", "[I", true)
  | 8 => ("DomainDeskModel", "three", "[I", true)
  | 9 => ("DomainDeskModel", "offset", "[I", true)
  | 10 => ("DomainDeskModel", "bits", "[I", true)
  | 11 => ("DomainDeskModel", "pairs", "[J", true)
  | 12 => ("DomainDeskModel", "draft", "J", false)
  | 13 => ("DomainDeskModel", "level", "I", false)
  | 14 => ("DomainDeskModel", "domains", "[I", true)
  | 15 => ("DomainDeskModel", "isKnown", "Z", false)
  | 16 => ("DomainDeskModel", "found", "I", false)
  | 17 => ("DomainDeskModel", "solved", "[I", true)
  | 18 => ("DomainDeskModel", "value", "[I", true)
  | 19 => ("DomainDeskModel", "reached", "[Z", true)
  | _ => ("DomainDeskModel", "next", "[Z", true)
def tyC5 : Nat → FieldType := fun k => match k with
  | 0 => .int
  | 1 => .int
  | 2 => .array .int
  | 3 => .int
  | 4 => .array .int
  | 5 => .array .int
  | 6 => .array .int
  | 7 => .array .int
  | 8 => .array .int
  | 9 => .array .int
  | 10 => .array .int
  | 11 => .array .long
  | 12 => .long
  | 13 => .int
  | 14 => .array .int
  | 15 => .boolean
  | 16 => .int
  | 17 => .array .int
  | 18 => .array .int
  | 19 => .array .boolean
  | _ => .array .boolean
theorem nmC5 : ∀ a, a < 21 → ∀ b, b < 21 → a ≠ b → (TC5 a).2.1 ≠ (TC5 b).2.1 := by decide +kernel
theorem tyC5_ok : ∀ k, k < 21 → parseFieldDescriptor (TC5 k).2.2.1 = some (tyC5 k) := by decide +kernel
theorem wC5 : ∀ w ∈ u_ws RC5 TC5 21, w ∈ xt := by decide +kernel
abbrev xcl : List vw_C := [(RC0, TC0, 3), (RC1, TC1, 8), (RC2, TC2, 5), (RC3, TC3, 6), (RC4, TC4, 1), (RC5, TC5, 21)]
theorem xt_arr : Cond.arrayClass .int ∈ xt ∧ Cond.arrayClass .long ∈ xt ∧ Cond.arrayClass .boolean ∈ xt := ⟨xt_in 85 (by decide +kernel) rfl, xt_in 695 (by decide +kernel) rfl, xt_in 696 (by decide +kernel) rfl⟩
/-- words that stay true under warmer tables, by laws of their own -/
def xkind (w : Cond) : Bool := match w with
  | .methodLinkNest .. => true
  | .castable .. => true
  | .declares _ => true
  | _ => false
def xnw : List Cond := tables_1.filter xkind
theorem xnw_in {w : Cond} (n : Nat) (h : tables_1[n]? = some w) (hk : xkind w = true) : w ∈ xnw := List.mem_filter.mpr ⟨List.mem_of_getElem? h, hk⟩
theorem xnw_warm {w : Cond} {s U : State} (hk : xkind w = true) (hW : s.WarmedH U.vm) (h : va_Nw w s) : va_Nw w U := by
  cases w <;> first | exact va_Nw.warmM hW h | exact va_Nw.warmC hW h | exact va_Nw.warmD hW h | cases hk
