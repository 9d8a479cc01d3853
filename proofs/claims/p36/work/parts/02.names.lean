def RJ0 : String := "java/lang/String"
def TJ0 : u_T := fun k => match k with
  | 0 => ("java/lang/String", "value", "[B", true)
  | 1 => ("java/lang/String", "coder", "B", true)
  | 2 => ("java/lang/String", "hash", "I", false)
  | _ => ("java/lang/String", "hashIsZero", "Z", false)
def tyJ0 : Nat → FieldType := fun k => match k with
  | 0 => .array .byte
  | 1 => .byte
  | 2 => .int
  | _ => .boolean
theorem nmJ0 : ∀ a, a < 4 → ∀ b, b < 4 → a ≠ b → (TJ0 a).2.1 ≠ (TJ0 b).2.1 := by decide +kernel
theorem tyJ0_ok : ∀ k, k < 4 → parseFieldDescriptor (TJ0 k).2.2.1 = some (tyJ0 k) := by decide +kernel
def RJ4 : String := "java/lang/StringBuilder"
def TJ4 : u_T := fun k => match k with
  | 0 => ("java/lang/AbstractStringBuilder", "value", "[B", false)
  | 1 => ("java/lang/AbstractStringBuilder", "coder", "B", false)
  | 2 => ("java/lang/AbstractStringBuilder", "maybeLatin1", "Z", false)
  | _ => ("java/lang/AbstractStringBuilder", "count", "I", false)
def tyJ4 : Nat → FieldType := fun k => match k with
  | 0 => .array .byte
  | 1 => .byte
  | 2 => .boolean
  | _ => .int
theorem nmJ4 : ∀ a, a < 4 → ∀ b, b < 4 → a ≠ b → (TJ4 a).2.1 ≠ (TJ4 b).2.1 := by decide +kernel
theorem tyJ4_ok : ∀ k, k < 4 → parseFieldDescriptor (TJ4 k).2.2.1 = some (tyJ4 k) := by decide +kernel
def RJx00060 : String := "java/lang/ArrayIndexOutOfBoundsException"
def TJx00060 : u_T := fun k => match k with
  | 0 => ("java/lang/Throwable", "cause", "Ljava/lang/Throwable;", false)
  | 1 => ("java/lang/Throwable", "stackTrace", "[Ljava/lang/StackTraceElement;", false)
  | 2 => ("java/lang/Throwable", "suppressedExceptions", "Ljava/util/List;", false)
  | 3 => ("java/lang/Throwable", "detailMessage", "Ljava/lang/String;", false)
  | 4 => ("java/lang/Throwable", "backtrace", "Ljava/lang/Object;", false)
  | _ => ("java/lang/Throwable", "depth", "I", false)
def tyJx00060 : Nat → FieldType := fun k => match k with
  | 0 => .object "java/lang/Throwable"
  | 1 => .array (.object "java/lang/StackTraceElement")
  | 2 => .object "java/util/List"
  | 3 => .object "java/lang/String"
  | 4 => .object "java/lang/Object"
  | _ => .int
theorem nmJx00060 : ∀ a, a < 6 → ∀ b, b < 6 → a ≠ b → (TJx00060 a).2.1 ≠ (TJx00060 b).2.1 := by decide +kernel
theorem tyJx00060_ok : ∀ k, k < 6 → parseFieldDescriptor (TJx00060 k).2.2.1 = some (tyJx00060 k) := by decide +kernel
def RJx7c733 : String := "java/lang/StringIndexOutOfBoundsException"
def TJx7c733 : u_T := fun k => match k with
  | 0 => ("java/lang/Throwable", "backtrace", "Ljava/lang/Object;", false)
  | 1 => ("java/lang/Throwable", "detailMessage", "Ljava/lang/String;", false)
  | 2 => ("java/lang/Throwable", "cause", "Ljava/lang/Throwable;", false)
  | 3 => ("java/lang/Throwable", "stackTrace", "[Ljava/lang/StackTraceElement;", false)
  | 4 => ("java/lang/Throwable", "depth", "I", false)
  | _ => ("java/lang/Throwable", "suppressedExceptions", "Ljava/util/List;", false)
def tyJx7c733 : Nat → FieldType := fun k => match k with
  | 0 => .object "java/lang/Object"
  | 1 => .object "java/lang/String"
  | 2 => .object "java/lang/Throwable"
  | 3 => .array (.object "java/lang/StackTraceElement")
  | 4 => .int
  | _ => .object "java/util/List"
theorem nmJx7c733 : ∀ a, a < 6 → ∀ b, b < 6 → a ≠ b → (TJx7c733 a).2.1 ≠ (TJx7c733 b).2.1 := by decide +kernel
theorem tyJx7c733_ok : ∀ k, k < 6 → parseFieldDescriptor (TJx7c733 k).2.2.1 = some (tyJx7c733 k) := by decide +kernel
def RX0 : String := "LedgerleafSheets$Axis"
def TX0 : u_T := fun k => match k with
  | 0 => ("LedgerleafSheets$Axis", "lines", "[LLedgerleafSheets$Line;", true)
  | 1 => ("LedgerleafSheets$Axis", "nowhere", "LLedgerleafSheets$Line;", true)
  | 2 => ("LedgerleafSheets$Axis", "step", "I", true)
  | _ => ("LedgerleafSheets$Axis", "count", "I", false)
def tyX0 : Nat → FieldType := fun k => match k with
  | 0 => .array (.object "LedgerleafSheets$Line")
  | 1 => .object "LedgerleafSheets$Line"
  | 2 => .int
  | _ => .int
theorem nmX0 : ∀ a, a < 4 → ∀ b, b < 4 → a ≠ b → (TX0 a).2.1 ≠ (TX0 b).2.1 := by decide +kernel
theorem tyX0_ok : ∀ k, k < 4 → parseFieldDescriptor (TX0 k).2.2.1 = some (tyX0 k) := by decide +kernel
def RX1 : String := "LedgerleafSheets$Content"
def TX1 : u_T := fun k => match k with
  | 0 => ("LedgerleafSheets$Content", "kind", "C", true)
  | 1 => ("LedgerleafSheets$Content", "number", "D", false)
  | 2 => ("LedgerleafSheets$Content", "text", "LLedgerleafSheets$Text;", false)
  | _ => ("LedgerleafSheets$Content", "formula", "LLedgerleafSheets$Node;", false)
def tyX1 : Nat → FieldType := fun k => match k with
  | 0 => .char
  | 1 => .double
  | 2 => .object "LedgerleafSheets$Text"
  | _ => .object "LedgerleafSheets$Node"
theorem nmX1 : ∀ a, a < 4 → ∀ b, b < 4 → a ≠ b → (TX1 a).2.1 ≠ (TX1 b).2.1 := by decide +kernel
theorem tyX1_ok : ∀ k, k < 4 → parseFieldDescriptor (TX1 k).2.2.1 = some (tyX1 k) := by decide +kernel
def RX2 : String := "LedgerleafSheets$Edit"
def TX2 : u_T := fun k => match k with
  | 0 => ("LedgerleafSheets$Edit", "kind", "C", true)
  | 1 => ("LedgerleafSheets$Edit", "earlier", "LLedgerleafSheets$Edit;", false)
  | 2 => ("LedgerleafSheets$Edit", "axis", "LLedgerleafSheets$Axis;", false)
  | 3 => ("LedgerleafSheets$Edit", "line", "LLedgerleafSheets$Line;", false)
  | 4 => ("LedgerleafSheets$Edit", "crossing", "LLedgerleafSheets$Line;", false)
  | 5 => ("LedgerleafSheets$Edit", "place", "I", false)
  | 6 => ("LedgerleafSheets$Edit", "before", "LLedgerleafSheets$Content;", false)
  | 7 => ("LedgerleafSheets$Edit", "after", "LLedgerleafSheets$Content;", false)
  | 8 => ("LedgerleafSheets$Edit", "lines", "[LLedgerleafSheets$Line;", false)
  | 9 => ("LedgerleafSheets$Edit", "later", "[LLedgerleafSheets$Line;", false)
  | _ => ("LedgerleafSheets$Edit", "contents", "[LLedgerleafSheets$Content;", false)
def tyX2 : Nat → FieldType := fun k => match k with
  | 0 => .char
  | 1 => .object "LedgerleafSheets$Edit"
  | 2 => .object "LedgerleafSheets$Axis"
  | 3 => .object "LedgerleafSheets$Line"
  | 4 => .object "LedgerleafSheets$Line"
  | 5 => .int
  | 6 => .object "LedgerleafSheets$Content"
  | 7 => .object "LedgerleafSheets$Content"
  | 8 => .array (.object "LedgerleafSheets$Line")
  | 9 => .array (.object "LedgerleafSheets$Line")
  | _ => .array (.object "LedgerleafSheets$Content")
theorem nmX2 : ∀ a, a < 11 → ∀ b, b < 11 → a ≠ b → (TX2 a).2.1 ≠ (TX2 b).2.1 := by decide +kernel
theorem tyX2_ok : ∀ k, k < 11 → parseFieldDescriptor (TX2 k).2.2.1 = some (tyX2 k) := by decide +kernel
def RX3 : String := "LedgerleafSheets$FormulaReader"
def TX3 : u_T := fun k => match k with
  | 0 => ("LedgerleafSheets$FormulaReader", "sheet", "LLedgerleafSheets$Sheet;", true)
  | 1 => ("LedgerleafSheets$FormulaReader", "typed", "Ljava/lang/String;", true)
  | _ => ("LedgerleafSheets$FormulaReader", "position", "I", false)
def tyX3 : Nat → FieldType := fun k => match k with
  | 0 => .object "LedgerleafSheets$Sheet"
  | 1 => .object "java/lang/String"
  | _ => .int
theorem nmX3 : ∀ a, a < 3 → ∀ b, b < 3 → a ≠ b → (TX3 a).2.1 ≠ (TX3 b).2.1 := by decide +kernel
theorem tyX3_ok : ∀ k, k < 3 → parseFieldDescriptor (TX3 k).2.2.1 = some (tyX3 k) := by decide +kernel
def RX4 : String := "LedgerleafSheets$Line"
def TX4 : u_T := fun k => match k with
  | 0 => ("LedgerleafSheets$Line", "place", "I", false)
  | 1 => ("LedgerleafSheets$Line", "offset", "I", false)
  | _ => ("LedgerleafSheets$Line", "isHidden", "Z", false)
def tyX4 : Nat → FieldType := fun k => match k with
  | 0 => .int
  | 1 => .int
  | _ => .boolean
theorem nmX4 : ∀ a, a < 3 → ∀ b, b < 3 → a ≠ b → (TX4 a).2.1 ≠ (TX4 b).2.1 := by decide +kernel
theorem tyX4_ok : ∀ k, k < 3 → parseFieldDescriptor (TX4 k).2.2.1 = some (tyX4 k) := by decide +kernel
def RX5 : String := "LedgerleafSheets$Node"
def TX5 : u_T := fun k => match k with
  | 0 => ("LedgerleafSheets$Node", "kind", "C", true)
  | 1 => ("LedgerleafSheets$Node", "parts", "[LLedgerleafSheets$Node;", true)
  | 2 => ("LedgerleafSheets$Node", "depth", "I", true)
  | 3 => ("LedgerleafSheets$Node", "letters", "Ljava/lang/String;", false)
  | 4 => ("LedgerleafSheets$Node", "text", "LLedgerleafSheets$Text;", false)
  | 5 => ("LedgerleafSheets$Node", "number", "D", false)
  | 6 => ("LedgerleafSheets$Node", "code", "I", false)
  | 7 => ("LedgerleafSheets$Node", "row", "LLedgerleafSheets$Line;", false)
  | 8 => ("LedgerleafSheets$Node", "column", "LLedgerleafSheets$Line;", false)
  | 9 => ("LedgerleafSheets$Node", "isRowFixed", "Z", false)
  | _ => ("LedgerleafSheets$Node", "isColumnFixed", "Z", false)
def tyX5 : Nat → FieldType := fun k => match k with
  | 0 => .char
  | 1 => .array (.object "LedgerleafSheets$Node")
  | 2 => .int
  | 3 => .object "java/lang/String"
  | 4 => .object "LedgerleafSheets$Text"
  | 5 => .double
  | 6 => .int
  | 7 => .object "LedgerleafSheets$Line"
  | 8 => .object "LedgerleafSheets$Line"
  | 9 => .boolean
  | _ => .boolean
theorem nmX5 : ∀ a, a < 11 → ∀ b, b < 11 → a ≠ b → (TX5 a).2.1 ≠ (TX5 b).2.1 := by decide +kernel
theorem tyX5_ok : ∀ k, k < 11 → parseFieldDescriptor (TX5 k).2.2.1 = some (tyX5 k) := by decide +kernel
def RX6 : String := "LedgerleafSheets$Passes"
def TX6 : u_T := fun k => match k with
  | 0 => ("LedgerleafSheets$Passes", "sheet", "LLedgerleafSheets$Sheet;", true)
  | 1 => ("LedgerleafSheets$Passes", "isWhole", "Z", true)
  | 2 => ("LedgerleafSheets$Passes", "reckoner", "LLedgerleafSheets$Reckoner;", true)
  | 3 => ("LedgerleafSheets$Passes", "results", "[LLedgerleafSheets$Values;", true)
  | 4 => ("LedgerleafSheets$Passes", "hasChanged", "[Z", true)
  | 5 => ("LedgerleafSheets$Passes", "origins", "[I", true)
  | 6 => ("LedgerleafSheets$Passes", "lowReads", "[J", true)
  | 7 => ("LedgerleafSheets$Passes", "highReads", "[J", true)
  | 8 => ("LedgerleafSheets$Passes", "now", "LLedgerleafSheets$Values;", false)
  | 9 => ("LedgerleafSheets$Passes", "ahead", "LLedgerleafSheets$Values;", false)
  | 10 => ("LedgerleafSheets$Passes", "lowChanged", "J", false)
  | 11 => ("LedgerleafSheets$Passes", "highChanged", "J", false)
  | 12 => ("LedgerleafSheets$Passes", "made", "I", false)
  | 13 => ("LedgerleafSheets$Passes", "worked", "I", false)
  | _ => ("LedgerleafSheets$Passes", "isDue", "Z", false)
def tyX6 : Nat → FieldType := fun k => match k with
  | 0 => .object "LedgerleafSheets$Sheet"
  | 1 => .boolean
  | 2 => .object "LedgerleafSheets$Reckoner"
  | 3 => .array (.object "LedgerleafSheets$Values")
  | 4 => .array .boolean
  | 5 => .array .int
  | 6 => .array .long
  | 7 => .array .long
  | 8 => .object "LedgerleafSheets$Values"
  | 9 => .object "LedgerleafSheets$Values"
  | 10 => .long
  | 11 => .long
  | 12 => .int
  | 13 => .int
  | _ => .boolean
theorem nmX6 : ∀ a, a < 15 → ∀ b, b < 15 → a ≠ b → (TX6 a).2.1 ≠ (TX6 b).2.1 := by decide +kernel
theorem tyX6_ok : ∀ k, k < 15 → parseFieldDescriptor (TX6 k).2.2.1 = some (tyX6 k) := by decide +kernel
def RX7 : String := "LedgerleafSheets$Reckoner"
def TX7 : u_T := fun k => match k with
  | 0 => ("LedgerleafSheets$Reckoner", "sheet", "LLedgerleafSheets$Sheet;", true)
  | 1 => ("LedgerleafSheets$Reckoner", "slots", "[LLedgerleafSheets$Values;", true)
  | 2 => ("LedgerleafSheets$Reckoner", "order", "[I", true)
  | 3 => ("LedgerleafSheets$Reckoner", "named", "[LLedgerleafSheets$Values;", true)
  | 4 => ("LedgerleafSheets$Reckoner", "isNamed", "[Z", true)
  | 5 => ("LedgerleafSheets$Reckoner", "namedLow", "[J", true)
  | 6 => ("LedgerleafSheets$Reckoner", "namedHigh", "[J", true)
  | 7 => ("LedgerleafSheets$Reckoner", "now", "LLedgerleafSheets$Values;", false)
  | 8 => ("LedgerleafSheets$Reckoner", "low", "J", false)
  | _ => ("LedgerleafSheets$Reckoner", "high", "J", false)
def tyX7 : Nat → FieldType := fun k => match k with
  | 0 => .object "LedgerleafSheets$Sheet"
  | 1 => .array (.object "LedgerleafSheets$Values")
  | 2 => .array .int
  | 3 => .array (.object "LedgerleafSheets$Values")
  | 4 => .array .boolean
  | 5 => .array .long
  | 6 => .array .long
  | 7 => .object "LedgerleafSheets$Values"
  | 8 => .long
  | _ => .long
theorem nmX7 : ∀ a, a < 10 → ∀ b, b < 10 → a ≠ b → (TX7 a).2.1 ≠ (TX7 b).2.1 := by decide +kernel
theorem tyX7_ok : ∀ k, k < 10 → parseFieldDescriptor (TX7 k).2.2.1 = some (tyX7 k) := by decide +kernel
def RX8 : String := "LedgerleafSheets$Sheet"
def TX8 : u_T := fun k => match k with
  | 0 => ("LedgerleafSheets$Sheet", "rowAxis", "LLedgerleafSheets$Axis;", true)
  | 1 => ("LedgerleafSheets$Sheet", "columnAxis", "LLedgerleafSheets$Axis;", true)
  | 2 => ("LedgerleafSheets$Sheet", "cells", "[LLedgerleafSheets$Content;", true)
  | 3 => ("LedgerleafSheets$Sheet", "nothing", "LLedgerleafSheets$Content;", true)
  | _ => ("LedgerleafSheets$Sheet", "names", "[LLedgerleafSheets$Node;", true)
def tyX8 : Nat → FieldType := fun k => match k with
  | 0 => .object "LedgerleafSheets$Axis"
  | 1 => .object "LedgerleafSheets$Axis"
  | 2 => .array (.object "LedgerleafSheets$Content")
  | 3 => .object "LedgerleafSheets$Content"
  | _ => .array (.object "LedgerleafSheets$Node")
theorem nmX8 : ∀ a, a < 5 → ∀ b, b < 5 → a ≠ b → (TX8 a).2.1 ≠ (TX8 b).2.1 := by decide +kernel
theorem tyX8_ok : ∀ k, k < 5 → parseFieldDescriptor (TX8 k).2.2.1 = some (tyX8 k) := by decide +kernel
def RX9 : String := "LedgerleafSheets$Text"
def TX9 : u_T := fun k => match k with
  | _ => ("LedgerleafSheets$Text", "letters", "Ljava/lang/String;", true)
def tyX9 : Nat → FieldType := fun k => match k with
  | _ => .object "java/lang/String"
theorem nmX9 : ∀ a, a < 1 → ∀ b, b < 1 → a ≠ b → (TX9 a).2.1 ≠ (TX9 b).2.1 := by decide +kernel
theorem tyX9_ok : ∀ k, k < 1 → parseFieldDescriptor (TX9 k).2.2.1 = some (tyX9 k) := by decide +kernel
def RX10 : String := "LedgerleafSheets$Values"
def TX10 : u_T := fun k => match k with
  | 0 => ("LedgerleafSheets$Values", "kinds", "[C", true)
  | 1 => ("LedgerleafSheets$Values", "numbers", "[D", true)
  | 2 => ("LedgerleafSheets$Values", "texts", "[LLedgerleafSheets$Text;", true)
  | 3 => ("LedgerleafSheets$Values", "height", "I", false)
  | _ => ("LedgerleafSheets$Values", "width", "I", false)
def tyX10 : Nat → FieldType := fun k => match k with
  | 0 => .array .char
  | 1 => .array .double
  | 2 => .array (.object "LedgerleafSheets$Text")
  | 3 => .int
  | _ => .int
theorem nmX10 : ∀ a, a < 5 → ∀ b, b < 5 → a ≠ b → (TX10 a).2.1 ≠ (TX10 b).2.1 := by decide +kernel
theorem tyX10_ok : ∀ k, k < 5 → parseFieldDescriptor (TX10 k).2.2.1 = some (tyX10 k) := by decide +kernel
def RX11 : String := "LedgerleafSheets"
def TX11 : u_T := fun k => match k with
  | 0 => ("LedgerleafSheets", "typed", "Ljava/lang/StringBuilder;", true)
  | 1 => ("LedgerleafSheets", "written", "Ljava/lang/StringBuilder;", true)
  | 2 => ("LedgerleafSheets", "sheet", "LLedgerleafSheets$Sheet;", true)
  | 3 => ("LedgerleafSheets", "ordinary", "LLedgerleafSheets$Passes;", true)
  | 4 => ("LedgerleafSheets", "byAll", "LLedgerleafSheets$Passes;", true)
  | 5 => ("LedgerleafSheets", "latest", "[LLedgerleafSheets$Edit;", true)
  | _ => ("LedgerleafSheets", "keptCounts", "[I", true)
def tyX11 : Nat → FieldType := fun k => match k with
  | 0 => .object "java/lang/StringBuilder"
  | 1 => .object "java/lang/StringBuilder"
  | 2 => .object "LedgerleafSheets$Sheet"
  | 3 => .object "LedgerleafSheets$Passes"
  | 4 => .object "LedgerleafSheets$Passes"
  | 5 => .array (.object "LedgerleafSheets$Edit")
  | _ => .array .int
theorem nmX11 : ∀ a, a < 7 → ∀ b, b < 7 → a ≠ b → (TX11 a).2.1 ≠ (TX11 b).2.1 := by decide +kernel
theorem tyX11_ok : ∀ k, k < 7 → parseFieldDescriptor (TX11 k).2.2.1 = some (tyX11 k) := by decide +kernel
abbrev vwCl : List vw_C := [(RJ0, TJ0, 4), (RJ4, TJ4, 4), (RJx00060, TJx00060, 6), (RJx7c733, TJx7c733, 6), (RX0, TX0, 4), (RX1, TX1, 4), (RX2, TX2, 11), (RX3, TX3, 3), (RX4, TX4, 3), (RX5, TX5, 11), (RX6, TX6, 15), (RX7, TX7, 10), (RX8, TX8, 5), (RX9, TX9, 1), (RX10, TX10, 5), (RX11, TX11, 7)]
/-- the String constants, as the tables name them; the statics that the run reads -/
def mStr : List (String × Nat × String) := [("java/lang/StringIndexOutOfBoundsException", 13, "String index out of range: "), ("java/util/Arrays", 337, " > "), ("java/util/Arrays", 48, "fromIndex("), ("java/util/Arrays", 57, ") > toIndex("), ("java/util/Arrays", 59, ")"), ("java/lang/ArrayIndexOutOfBoundsException", 13, "Array index out of range: "), ("LedgerleafSheets", 50, "no such character"), ("LedgerleafSheets", 61, "all is typed"), ("LedgerleafSheets", 287, "no such hand"), ("LedgerleafSheets", 293, "no such row or column"), ("LedgerleafSheets$Node", 9, ""), ("java/lang/StringLatin1", 151, ""), ("java/lang/StringUTF16", 295, ""), ("LedgerleafSheets$FormulaReader", 171, "sum"), ("LedgerleafSheets$FormulaReader", 176, "max"), ("LedgerleafSheets$FormulaReader", 178, "min"), ("LedgerleafSheets$FormulaReader", 180, "count"), ("LedgerleafSheets$FormulaReader", 182, "if"), ("LedgerleafSheets$FormulaReader", 184, "iferr"), ("LedgerleafSheets$FormulaReader", 186, "seq"), ("LedgerleafSheets$FormulaReader", 188, "rows"), ("LedgerleafSheets$FormulaReader", 190, "cols"), ("LedgerleafSheets$FormulaReader", 192, "trans"), ("LedgerleafSheets$FormulaReader", 194, "sort"), ("LedgerleafSheets$FormulaReader", 196, "filter"), ("LedgerleafSheets$FormulaReader", 198, "match"), ("LedgerleafSheets$FormulaReader", 200, "sub"), ("LedgerleafSheets", 89, "not a formula"), ("LedgerleafSheets", 106, "no such name"), ("LedgerleafSheets", 108, "neither a formula nor nothing"), ("LedgerleafSheets", 130, "no content"), ("LedgerleafSheets", 295, "no such place"), ("LedgerleafSheets", 301, "no room"), ("LedgerleafSheets", 307, "the last one"), ("LedgerleafSheets", 174, "the last row is ahead of the first one"), ("LedgerleafSheets$Values", 40, ""), ("LedgerleafSheets", 196, "no such row"), ("LedgerleafSheets", 209, "nothing is kept"), ("LedgerleafSheets", 215, "not as it was left"), ("LedgerleafSheets", 238, "no error"), ("LedgerleafSheets", 330, "no text"), ("LedgerleafSheets", 257, "no array"), ("LedgerleafSheets", 268, "no formula"), ("LedgerleafSheetsLaw", 139, "$"), ("LedgerleafSheetsLaw", 141, ""), ("LedgerleafSheetsLaw", 147, "abcd"), ("LedgerleafSheetsLaw", 220, "x"), ("LedgerleafSheetsLaw", 214, "-"), ("LedgerleafSheetsLaw", 222, "1.25"), ("LedgerleafSheetsLaw", 159, "0.5"), ("LedgerleafSheetsLaw", 161, "\"x\""), ("LedgerleafSheetsLaw", 163, "A"), ("LedgerleafSheetsLaw", 169, ":"), ("LedgerleafSheetsLaw", 174, "="), ("LedgerleafSheetsLaw", 176, "=sum("), ("LedgerleafSheetsLaw", 178, ","), ("LedgerleafSheetsLaw", 180, ")"), ("LedgerleafSheetsLaw", 182, "=if("), ("LedgerleafSheetsLaw", 184, ",2)"), ("LedgerleafSheetsLaw", 186, "=iferr("), ("LedgerleafSheetsLaw", 188, "/"), ("LedgerleafSheetsLaw", 190, ",7)"), ("LedgerleafSheetsLaw", 192, "=seq("), ("LedgerleafSheetsLaw", 194, "=sort("), ("LedgerleafSheetsLaw", 196, "=match("), ("LedgerleafSheetsLaw", 198, "=trans("), ("LedgerleafSheetsLaw", 200, ")%"), ("LedgerleafSheetsLaw", 202, "=sub("), ("LedgerleafSheetsLaw", 204, "=filter("), ("LedgerleafSheetsLaw", 206, "=("), ("LedgerleafSheetsLaw", 208, "+"), ("LedgerleafSheetsLaw", 210, ")*2"), ("LedgerleafSheetsLaw", 212, "=-"), ("LedgerleafSheetsLaw", 216, "=max("), ("LedgerleafSheetsLaw", 218, "<1)"), ("LedgerleafSheets", 324, "no number"), ("LedgerleafSheetsLaw", 272, "*2")]
def mSt : List (String × String × String) := [("java/lang/String", "COMPACT_STRINGS", "Z"), ("java/lang/StringUTF16", "$assertionsDisabled", "Z"), ("java/lang/StringUTF16", "HI_BYTE_SHIFT", "I"), ("java/lang/StringUTF16", "LO_BYTE_SHIFT", "I"), ("java/lang/Integer", "DigitOnes", "[B"), ("java/lang/Integer", "DigitTens", "[B"), ("jdk/internal/util/Preconditions", "SIOOBE_FORMATTER", "Ljava/util/function/BiFunction;")]
