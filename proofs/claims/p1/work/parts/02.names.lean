abbrev cL_law : ByteArray := code
def RX0 : String := "CommandHouse$Book"
def RX1 : String := "CommandHouse$Builder"
def RX2 : String := "CommandHouse$Builtins"
def RX3 : String := "CommandHouse$Bytes"
def RX4 : String := "CommandHouse$Expression"
def RX5 : String := "CommandHouse$Frame"
def RX6 : String := "CommandHouse$Input"
def RX7 : String := "CommandHouse$Machine"
def RX8 : String := "CommandHouse$Pattern"
def RX9 : String := "CommandHouse$Script"
def RX10 : String := "CommandHouse$State"
def RX11 : String := "CommandHouse$Words"
def RX12 : String := "CommandHouse"
def RX13 : String := "CommandHouseModel"
def RJx145de : String := "java/io/Serializable"
def RJx9f9b0 : String := "java/lang/CharSequence"
def RJx8e188 : String := "java/lang/Cloneable"
def RJxb160c : String := "java/lang/Comparable"
def RJxab1ab : String := "java/lang/Iterable"
def RJ9 : String := "java/lang/Math"
def RJ0 : String := "java/lang/String"
def RJ1 : String := "java/lang/StringLatin1"
def RJ2 : String := "java/lang/StringUTF16"
def RJ10 : String := "java/lang/System"
def RJxfd54e : String := "java/lang/constant/Constable"
def RJx3cf43 : String := "java/lang/constant/ConstantDesc"
def RJxa1e45 : String := "java/util/AbstractCollection"
def RJxc12de : String := "java/util/AbstractList"
def RJx4a65c : String := "java/util/ArrayList"
def RJ7 : String := "java/util/Arrays"
def RJx5ef63 : String := "java/util/Collection"
def RJxbd725 : String := "java/util/List"
def RJ15 : String := "java/util/Objects"
def RJxf0a74 : String := "java/util/RandomAccess"
def RJxa66e6 : String := "java/util/SequencedCollection"
def RJ8 : String := "jdk/internal/util/ArraysSupport"
def RJ3 : String := "jdk/internal/util/Preconditions"
def RL : String := "CommandHouseLaw"
def TJx4a65c : u_T := fun k => match k with
  | 0 => ("java/util/AbstractList", "modCount", "I", false)
  | 1 => ("java/util/ArrayList", "elementData", "[Ljava/lang/Object;", false)
  | _ => ("java/util/ArrayList", "size", "I", false)
def tyJx4a65c : Nat → FieldType := fun k => match k with
  | 0 => .int
  | 1 => .array (.object "java/lang/Object")
  | _ => .int
theorem nmJx4a65c : ∀ a, a < 3 → ∀ b, b < 3 → a ≠ b → (TJx4a65c a).2.1 ≠ (TJx4a65c b).2.1 := by decide +kernel
theorem tyJx4a65c_ok : ∀ k, k < 3 → parseFieldDescriptor (TJx4a65c k).2.2.1 = some (tyJx4a65c k) := by decide +kernel
def TX0 : u_T := fun k => match k with
  | 0 => ("CommandHouse$Book", "work", "I", false)
  | 1 => ("CommandHouse$Book", "flow", "I", false)
  | 2 => ("CommandHouse$Book", "limit", "I", false)
  | 3 => ("CommandHouse$Book", "ran", "I", false)
  | 4 => ("CommandHouse$Book", "latest", "I", false)
  | 5 => ("CommandHouse$Book", "diagnostics", "[I", true)
  | 6 => ("CommandHouse$Book", "told", "I", false)
  | 7 => ("CommandHouse$Book", "files", "[LCommandHouse$Bytes;", true)
  | 8 => ("CommandHouse$Book", "shelved", "I", false)
  | 9 => ("CommandHouse$Book", "out", "LCommandHouse$Bytes;", true)
  | _ => ("CommandHouse$Book", "nothing", "LCommandHouse$Bytes;", true)
def tyX0 : Nat → FieldType := fun k => match k with
  | 0 => .int
  | 1 => .int
  | 2 => .int
  | 3 => .int
  | 4 => .int
  | 5 => .array .int
  | 6 => .int
  | 7 => .array (.object "CommandHouse$Bytes")
  | 8 => .int
  | 9 => .object "CommandHouse$Bytes"
  | _ => .object "CommandHouse$Bytes"
theorem nmX0 : ∀ a, a < 11 → ∀ b, b < 11 → a ≠ b → (TX0 a).2.1 ≠ (TX0 b).2.1 := by decide +kernel
theorem tyX0_ok : ∀ k, k < 11 → parseFieldDescriptor (TX0 k).2.2.1 = some (tyX0 k) := by decide +kernel
def TX1 : u_T := fun k => match k with
  | 0 => ("CommandHouse$Builder", "b", "[B", false)
  | 1 => ("CommandHouse$Builder", "quoted", "[B", false)
  | 2 => ("CommandHouse$Builder", "n", "I", false)
  | 3 => ("CommandHouse$Builder", "start", "I", false)
  | 4 => ("CommandHouse$Builder", "ends", "[I", false)
  | 5 => ("CommandHouse$Builder", "ended", "I", false)
  | 6 => ("CommandHouse$Builder", "quotes", "Z", false)
  | 7 => ("CommandHouse$Builder", "marked", "Z", false)
  | 8 => ("CommandHouse$Builder", "splits", "Z", false)
  | 9 => ("CommandHouse$Builder", "fields", "[LCommandHouse$Bytes;", false)
  | 10 => ("CommandHouse$Builder", "made", "I", false)
  | 11 => ("CommandHouse$Builder", "none", "[LCommandHouse$Bytes;", true)
  | 12 => ("CommandHouse$Builder", "at", "I", false)
  | 13 => ("CommandHouse$Builder", "to", "I", false)
  | 14 => ("CommandHouse$Builder", "mode", "I", false)
  | 15 => ("CommandHouse$Builder", "inDouble", "Z", false)
  | 16 => ("CommandHouse$Builder", "purpose", "I", false)
  | 17 => ("CommandHouse$Builder", "nameFrom", "I", false)
  | 18 => ("CommandHouse$Builder", "nameTo", "I", false)
  | _ => ("CommandHouse$Builder", "subject", "LCommandHouse$Bytes;", false)
def tyX1 : Nat → FieldType := fun k => match k with
  | 0 => .array .byte
  | 1 => .array .byte
  | 2 => .int
  | 3 => .int
  | 4 => .array .int
  | 5 => .int
  | 6 => .boolean
  | 7 => .boolean
  | 8 => .boolean
  | 9 => .array (.object "CommandHouse$Bytes")
  | 10 => .int
  | 11 => .array (.object "CommandHouse$Bytes")
  | 12 => .int
  | 13 => .int
  | 14 => .int
  | 15 => .boolean
  | 16 => .int
  | 17 => .int
  | 18 => .int
  | _ => .object "CommandHouse$Bytes"
theorem nmX1 : ∀ a, a < 20 → ∀ b, b < 20 → a ≠ b → (TX1 a).2.1 ≠ (TX1 b).2.1 := by decide +kernel
theorem tyX1_ok : ∀ k, k < 20 → parseFieldDescriptor (TX1 k).2.2.1 = some (tyX1 k) := by decide +kernel
def TX2 : u_T := fun k => match k with
  | 0 => ("CommandHouse$Builtins", "book", "LCommandHouse$Book;", true)
  | _ => ("CommandHouse$Builtins", "machine", "LCommandHouse$Machine;", false)
def tyX2 : Nat → FieldType := fun k => match k with
  | 0 => .object "CommandHouse$Book"
  | _ => .object "CommandHouse$Machine"
theorem nmX2 : ∀ a, a < 2 → ∀ b, b < 2 → a ≠ b → (TX2 a).2.1 ≠ (TX2 b).2.1 := by decide +kernel
theorem tyX2_ok : ∀ k, k < 2 → parseFieldDescriptor (TX2 k).2.2.1 = some (tyX2 k) := by decide +kernel
def TX3 : u_T := fun k => match k with
  | 0 => ("CommandHouse$Bytes", "b", "[B", false)
  | 1 => ("CommandHouse$Bytes", "n", "I", false)
  | 2 => ("CommandHouse$Bytes", "bound", "I", true)
  | _ => ("CommandHouse$Bytes", "name", "LCommandHouse$Bytes;", true)
def tyX3 : Nat → FieldType := fun k => match k with
  | 0 => .array .byte
  | 1 => .int
  | 2 => .int
  | _ => .object "CommandHouse$Bytes"
theorem nmX3 : ∀ a, a < 4 → ∀ b, b < 4 → a ≠ b → (TX3 a).2.1 ≠ (TX3 b).2.1 := by decide +kernel
theorem tyX3_ok : ∀ k, k < 4 → parseFieldDescriptor (TX3 k).2.2.1 = some (tyX3 k) := by decide +kernel
def TX4 : u_T := fun k => match k with
  | 0 => ("CommandHouse$Expression", "values", "[I", true)
  | 1 => ("CommandHouse$Expression", "signs", "[I", true)
  | 2 => ("CommandHouse$Expression", "valueCount", "I", false)
  | 3 => ("CommandHouse$Expression", "signCount", "I", false)
  | 4 => ("CommandHouse$Expression", "parens", "I", false)
  | 5 => ("CommandHouse$Expression", "bad", "Z", false)
  | 6 => ("CommandHouse$Expression", "s", "[B", false)
  | 7 => ("CommandHouse$Expression", "n", "I", false)
  | _ => ("CommandHouse$Expression", "at", "I", false)
def tyX4 : Nat → FieldType := fun k => match k with
  | 0 => .array .int
  | 1 => .array .int
  | 2 => .int
  | 3 => .int
  | 4 => .int
  | 5 => .boolean
  | 6 => .array .byte
  | 7 => .int
  | _ => .int
theorem nmX4 : ∀ a, a < 9 → ∀ b, b < 9 → a ≠ b → (TX4 a).2.1 ≠ (TX4 b).2.1 := by decide +kernel
theorem tyX4_ok : ∀ k, k < 9 → parseFieldDescriptor (TX4 k).2.2.1 = some (tyX4 k) := by decide +kernel
def TX5 : u_T := fun k => match k with
  | 0 => ("CommandHouse$Frame", "kind", "I", false)
  | 1 => ("CommandHouse$Frame", "script", "LCommandHouse$Script;", false)
  | 2 => ("CommandHouse$Frame", "pc", "I", false)
  | 3 => ("CommandHouse$Frame", "in", "LCommandHouse$Input;", false)
  | 4 => ("CommandHouse$Frame", "out", "LCommandHouse$Bytes;", false)
  | 5 => ("CommandHouse$Frame", "level", "I", false)
  | 6 => ("CommandHouse$Frame", "state", "LCommandHouse$State;", false)
  | 7 => ("CommandHouse$Frame", "top", "I", false)
  | 8 => ("CommandHouse$Frame", "end", "I", false)
  | 9 => ("CommandHouse$Frame", "status", "I", false)
  | 10 => ("CommandHouse$Frame", "inBody", "Z", false)
  | 11 => ("CommandHouse$Frame", "items", "[LCommandHouse$Bytes;", false)
  | 12 => ("CommandHouse$Frame", "index", "I", false)
  | 13 => ("CommandHouse$Frame", "kept", "[LCommandHouse$Bytes;", false)
  | 14 => ("CommandHouse$Frame", "keeps", "Z", false)
  | 15 => ("CommandHouse$Frame", "parameters", "[LCommandHouse$Bytes;", false)
  | 16 => ("CommandHouse$Frame", "shifted", "I", false)
  | 17 => ("CommandHouse$Frame", "made", "LCommandHouse$Bytes;", false)
  | _ => ("CommandHouse$Frame", "own", "LCommandHouse$Input;", false)
def tyX5 : Nat → FieldType := fun k => match k with
  | 0 => .int
  | 1 => .object "CommandHouse$Script"
  | 2 => .int
  | 3 => .object "CommandHouse$Input"
  | 4 => .object "CommandHouse$Bytes"
  | 5 => .int
  | 6 => .object "CommandHouse$State"
  | 7 => .int
  | 8 => .int
  | 9 => .int
  | 10 => .boolean
  | 11 => .array (.object "CommandHouse$Bytes")
  | 12 => .int
  | 13 => .array (.object "CommandHouse$Bytes")
  | 14 => .boolean
  | 15 => .array (.object "CommandHouse$Bytes")
  | 16 => .int
  | 17 => .object "CommandHouse$Bytes"
  | _ => .object "CommandHouse$Input"
theorem nmX5 : ∀ a, a < 19 → ∀ b, b < 19 → a ≠ b → (TX5 a).2.1 ≠ (TX5 b).2.1 := by decide +kernel
theorem tyX5_ok : ∀ k, k < 19 → parseFieldDescriptor (TX5 k).2.2.1 = some (tyX5 k) := by decide +kernel
def TX6 : u_T := fun k => match k with
  | 0 => ("CommandHouse$Input", "source", "LCommandHouse$Bytes;", false)
  | 1 => ("CommandHouse$Input", "text", "[B", false)
  | 2 => ("CommandHouse$Input", "end", "I", false)
  | _ => ("CommandHouse$Input", "taken", "I", false)
def tyX6 : Nat → FieldType := fun k => match k with
  | 0 => .object "CommandHouse$Bytes"
  | 1 => .array .byte
  | 2 => .int
  | _ => .int
theorem nmX6 : ∀ a, a < 4 → ∀ b, b < 4 → a ≠ b → (TX6 a).2.1 ≠ (TX6 b).2.1 := by decide +kernel
theorem tyX6_ok : ∀ k, k < 4 → parseFieldDescriptor (TX6 k).2.2.1 = some (tyX6 k) := by decide +kernel
def TX7 : u_T := fun k => match k with
  | 0 => ("CommandHouse$Machine", "book", "LCommandHouse$Book;", true)
  | 1 => ("CommandHouse$Machine", "words", "LCommandHouse$Words;", true)
  | 2 => ("CommandHouse$Machine", "builtins", "LCommandHouse$Builtins;", true)
  | 3 => ("CommandHouse$Machine", "frames", "Ljava/util/ArrayList;", true)
  | 4 => ("CommandHouse$Machine", "depth", "I", false)
  | 5 => ("CommandHouse$Machine", "first", "LCommandHouse$State;", true)
  | 6 => ("CommandHouse$Machine", "none", "[LCommandHouse$Bytes;", true)
  | 7 => ("CommandHouse$Machine", "state", "LCommandHouse$State;", false)
  | 8 => ("CommandHouse$Machine", "script", "LCommandHouse$Script;", false)
  | 9 => ("CommandHouse$Machine", "pc", "I", false)
  | 10 => ("CommandHouse$Machine", "in", "LCommandHouse$Input;", false)
  | 11 => ("CommandHouse$Machine", "out", "LCommandHouse$Bytes;", false)
  | 12 => ("CommandHouse$Machine", "level", "I", false)
  | _ => ("CommandHouse$Machine", "wrongPlace", "I", false)
def tyX7 : Nat → FieldType := fun k => match k with
  | 0 => .object "CommandHouse$Book"
  | 1 => .object "CommandHouse$Words"
  | 2 => .object "CommandHouse$Builtins"
  | 3 => .object "java/util/ArrayList"
  | 4 => .int
  | 5 => .object "CommandHouse$State"
  | 6 => .array (.object "CommandHouse$Bytes")
  | 7 => .object "CommandHouse$State"
  | 8 => .object "CommandHouse$Script"
  | 9 => .int
  | 10 => .object "CommandHouse$Input"
  | 11 => .object "CommandHouse$Bytes"
  | 12 => .int
  | _ => .int
theorem nmX7 : ∀ a, a < 14 → ∀ b, b < 14 → a ≠ b → (TX7 a).2.1 ≠ (TX7 b).2.1 := by decide +kernel
theorem tyX7_ok : ∀ k, k < 14 → parseFieldDescriptor (TX7 k).2.2.1 = some (tyX7 k) := by decide +kernel
def TX8 : u_T := fun k => match k with
  | 0 => ("CommandHouse$Pattern", "b", "[B", false)
  | 1 => ("CommandHouse$Pattern", "quoted", "[B", false)
  | 2 => ("CommandHouse$Pattern", "n", "I", false)
  | 3 => ("CommandHouse$Pattern", "kinds", "[I", true)
  | 4 => ("CommandHouse$Pattern", "details", "[I", true)
  | 5 => ("CommandHouse$Pattern", "elements", "I", false)
  | 6 => ("CommandHouse$Pattern", "reached", "[B", true)
  | 7 => ("CommandHouse$Pattern", "bits", "[J", true)
  | _ => ("CommandHouse$Pattern", "sets", "I", false)
def tyX8 : Nat → FieldType := fun k => match k with
  | 0 => .array .byte
  | 1 => .array .byte
  | 2 => .int
  | 3 => .array .int
  | 4 => .array .int
  | 5 => .int
  | 6 => .array .byte
  | 7 => .array .long
  | _ => .int
theorem nmX8 : ∀ a, a < 9 → ∀ b, b < 9 → a ≠ b → (TX8 a).2.1 ≠ (TX8 b).2.1 := by decide +kernel
theorem tyX8_ok : ∀ k, k < 9 → parseFieldDescriptor (TX8 k).2.2.1 = some (tyX8 k) := by decide +kernel
def TX9 : u_T := fun k => match k with
  | 0 => ("CommandHouse$Script", "text", "LCommandHouse$Bytes;", true)
  | 1 => ("CommandHouse$Script", "src", "[B", true)
  | 2 => ("CommandHouse$Script", "n", "I", true)
  | 3 => ("CommandHouse$Script", "pos", "I", false)
  | 4 => ("CommandHouse$Script", "kind", "I", false)
  | 5 => ("CommandHouse$Script", "from", "I", false)
  | 6 => ("CommandHouse$Script", "to", "I", false)
  | 7 => ("CommandHouse$Script", "code", "[I", false)
  | 8 => ("CommandHouse$Script", "length", "I", false)
  | 9 => ("CommandHouse$Script", "nest", "I", false)
  | 10 => ("CommandHouse$Script", "wrongAt", "I", false)
  | 11 => ("CommandHouse$Script", "began", "Z", false)
  | 12 => ("CommandHouse$Script", "waiting", "[I", false)
  | 13 => ("CommandHouse$Script", "waits", "I", false)
  | _ => ("CommandHouse$Script", "isMain", "Z", true)
def tyX9 : Nat → FieldType := fun k => match k with
  | 0 => .object "CommandHouse$Bytes"
  | 1 => .array .byte
  | 2 => .int
  | 3 => .int
  | 4 => .int
  | 5 => .int
  | 6 => .int
  | 7 => .array .int
  | 8 => .int
  | 9 => .int
  | 10 => .int
  | 11 => .boolean
  | 12 => .array .int
  | 13 => .int
  | _ => .boolean
theorem nmX9 : ∀ a, a < 15 → ∀ b, b < 15 → a ≠ b → (TX9 a).2.1 ≠ (TX9 b).2.1 := by decide +kernel
theorem tyX9_ok : ∀ k, k < 15 → parseFieldDescriptor (TX9 k).2.2.1 = some (tyX9 k) := by decide +kernel
def TX10 : u_T := fun k => match k with
  | 0 => ("CommandHouse$State", "sources", "[LCommandHouse$Bytes;", true)
  | 1 => ("CommandHouse$State", "nameFrom", "[I", true)
  | 2 => ("CommandHouse$State", "nameTo", "[I", true)
  | 3 => ("CommandHouse$State", "values", "[LCommandHouse$Bytes;", true)
  | 4 => ("CommandHouse$State", "variables", "I", false)
  | 5 => ("CommandHouse$State", "parameters", "[LCommandHouse$Bytes;", false)
  | 6 => ("CommandHouse$State", "shifted", "I", false)
  | 7 => ("CommandHouse$State", "scripts", "[LCommandHouse$Script;", true)
  | 8 => ("CommandHouse$State", "functionFrom", "[I", true)
  | 9 => ("CommandHouse$State", "functionTo", "[I", true)
  | 10 => ("CommandHouse$State", "entries", "[I", true)
  | 11 => ("CommandHouse$State", "functions", "I", false)
  | 12 => ("CommandHouse$State", "unsetFails", "Z", false)
  | 13 => ("CommandHouse$State", "namesStay", "Z", false)
  | 14 => ("CommandHouse$State", "status", "I", false)
  | _ => ("CommandHouse$State", "within", "LCommandHouse$State;", false)
def tyX10 : Nat → FieldType := fun k => match k with
  | 0 => .array (.object "CommandHouse$Bytes")
  | 1 => .array .int
  | 2 => .array .int
  | 3 => .array (.object "CommandHouse$Bytes")
  | 4 => .int
  | 5 => .array (.object "CommandHouse$Bytes")
  | 6 => .int
  | 7 => .array (.object "CommandHouse$Script")
  | 8 => .array .int
  | 9 => .array .int
  | 10 => .array .int
  | 11 => .int
  | 12 => .boolean
  | 13 => .boolean
  | 14 => .int
  | _ => .object "CommandHouse$State"
theorem nmX10 : ∀ a, a < 16 → ∀ b, b < 16 → a ≠ b → (TX10 a).2.1 ≠ (TX10 b).2.1 := by decide +kernel
theorem tyX10_ok : ∀ k, k < 16 → parseFieldDescriptor (TX10 k).2.2.1 = some (tyX10 k) := by decide +kernel
def TX11 : u_T := fun k => match k with
  | 0 => ("CommandHouse$Words", "book", "LCommandHouse$Book;", true)
  | 1 => ("CommandHouse$Words", "machine", "LCommandHouse$Machine;", false)
  | 2 => ("CommandHouse$Words", "pattern", "LCommandHouse$Pattern;", true)
  | 3 => ("CommandHouse$Words", "expression", "LCommandHouse$Expression;", true)
  | 4 => ("CommandHouse$Words", "builders", "Ljava/util/ArrayList;", true)
  | 5 => ("CommandHouse$Words", "taken", "I", false)
  | 6 => ("CommandHouse$Words", "digits", "[B", true)
  | 7 => ("CommandHouse$Words", "decimal", "LCommandHouse$Bytes;", true)
  | _ => ("CommandHouse$Words", "nothing", "LCommandHouse$Bytes;", true)
def tyX11 : Nat → FieldType := fun k => match k with
  | 0 => .object "CommandHouse$Book"
  | 1 => .object "CommandHouse$Machine"
  | 2 => .object "CommandHouse$Pattern"
  | 3 => .object "CommandHouse$Expression"
  | 4 => .object "java/util/ArrayList"
  | 5 => .int
  | 6 => .array .byte
  | 7 => .object "CommandHouse$Bytes"
  | _ => .object "CommandHouse$Bytes"
theorem nmX11 : ∀ a, a < 9 → ∀ b, b < 9 → a ≠ b → (TX11 a).2.1 ≠ (TX11 b).2.1 := by decide +kernel
theorem tyX11_ok : ∀ k, k < 9 → parseFieldDescriptor (TX11 k).2.2.1 = some (tyX11 k) := by decide +kernel
def TX12 : u_T := fun k => match k with
  | 0 => ("CommandHouse", "tape", "[B", true)
  | 1 => ("CommandHouse", "taped", "I", false)
  | 2 => ("CommandHouse", "fed", "LCommandHouse$Bytes;", false)
  | 3 => ("CommandHouse", "book", "LCommandHouse$Book;", true)
  | _ => ("CommandHouse", "machine", "LCommandHouse$Machine;", true)
def tyX12 : Nat → FieldType := fun k => match k with
  | 0 => .array .byte
  | 1 => .int
  | 2 => .object "CommandHouse$Bytes"
  | 3 => .object "CommandHouse$Book"
  | _ => .object "CommandHouse$Machine"
theorem nmX12 : ∀ a, a < 5 → ∀ b, b < 5 → a ≠ b → (TX12 a).2.1 ≠ (TX12 b).2.1 := by decide +kernel
theorem tyX12_ok : ∀ k, k < 5 → parseFieldDescriptor (TX12 k).2.2.1 = some (tyX12 k) := by decide +kernel
def TX13 : u_T := fun k => match k with
  | 0 => ("CommandHouseModel", "tape", "[I", true)
  | 1 => ("CommandHouseModel", "taped", "I", false)
  | 2 => ("CommandHouseModel", "given", "[I", true)
  | 3 => ("CommandHouseModel", "givenMany", "I", false)
  | 4 => ("CommandHouseModel", "out", "[I", true)
  | 5 => ("CommandHouseModel", "outs", "I", false)
  | 6 => ("CommandHouseModel", "diagnostics", "I", false)
  | 7 => ("CommandHouseModel", "diagnostic", "[I", true)
  | 8 => ("CommandHouseModel", "wrongPlace", "I", false)
  | 9 => ("CommandHouseModel", "work", "I", false)
  | 10 => ("CommandHouseModel", "simple", "I", false)
  | 11 => ("CommandHouseModel", "script", "[I", true)
  | 12 => ("CommandHouseModel", "scripted", "I", false)
  | 13 => ("CommandHouseModel", "hereFrom", "[I", true)
  | 14 => ("CommandHouseModel", "hereTo", "[I", true)
  | 15 => ("CommandHouseModel", "waiting", "[I", true)
  | 16 => ("CommandHouseModel", "waitingMark", "[I", true)
  | 17 => ("CommandHouseModel", "waitingEnd", "[I", true)
  | 18 => ("CommandHouseModel", "waits", "I", false)
  | 19 => ("CommandHouseModel", "texts", "[I", true)
  | 20 => ("CommandHouseModel", "texted", "I", false)
  | 21 => ("CommandHouseModel", "variables", "I", false)
  | 22 => ("CommandHouseModel", "nameAt", "[I", true)
  | 23 => ("CommandHouseModel", "nameLong", "[I", true)
  | 24 => ("CommandHouseModel", "valueAt", "[I", true)
  | 25 => ("CommandHouseModel", "valueLong", "[I", true)
  | 26 => ("CommandHouseModel", "parameters", "I", false)
  | 27 => ("CommandHouseModel", "parameterAt", "[I", true)
  | 28 => ("CommandHouseModel", "parameterLong", "[I", true)
  | 29 => ("CommandHouseModel", "functions", "I", false)
  | 30 => ("CommandHouseModel", "functionAt", "[I", true)
  | 31 => ("CommandHouseModel", "functionLong", "[I", true)
  | 32 => ("CommandHouseModel", "functionBody", "[I", true)
  | 33 => ("CommandHouseModel", "functionEnd", "[I", true)
  | 34 => ("CommandHouseModel", "unsetFails", "Z", false)
  | 35 => ("CommandHouseModel", "noNames", "Z", false)
  | 36 => ("CommandHouseModel", "status", "I", false)
  | 37 => ("CommandHouseModel", "saved", "[I", true)
  | 38 => ("CommandHouseModel", "saves", "I", false)
  | 39 => ("CommandHouseModel", "files", "I", false)
  | 40 => ("CommandHouseModel", "fileName", "[I", true)
  | 41 => ("CommandHouseModel", "fileNameLong", "[I", true)
  | 42 => ("CommandHouseModel", "file", "[I", true)
  | 43 => ("CommandHouseModel", "fileLong", "[I", true)
  | 44 => ("CommandHouseModel", "flow", "I", false)
  | 45 => ("CommandHouseModel", "flowMany", "I", false)
  | 46 => ("CommandHouseModel", "limit", "I", false)
  | 47 => ("CommandHouseModel", "loops", "I", false)
  | 48 => ("CommandHouseModel", "calls", "I", false)
  | 49 => ("CommandHouseModel", "levels", "I", false)
  | 50 => ("CommandHouseModel", "substituted", "I", false)
  | 51 => ("CommandHouseModel", "at", "I", false)
  | 52 => ("CommandHouseModel", "stop", "I", false)
  | 53 => ("CommandHouseModel", "token", "I", false)
  | 54 => ("CommandHouseModel", "tokenFrom", "I", false)
  | 55 => ("CommandHouseModel", "tokenTo", "I", false)
  | 56 => ("CommandHouseModel", "wrong", "I", false)
  | 57 => ("CommandHouseModel", "deep", "I", false)
  | 58 => ("CommandHouseModel", "behind", "[I", true)
  | 59 => ("CommandHouseModel", "checks", "Z", false)
  | 60 => ("CommandHouseModel", "kept", "[I", true)
  | 61 => ("CommandHouseModel", "keeps", "I", false)
  | 62 => ("CommandHouseModel", "keepsValues", "Z", false)
  | 63 => ("CommandHouseModel", "keptValues", "I", false)
  | 64 => ("CommandHouseModel", "sink", "I", false)
  | 65 => ("CommandHouseModel", "caught", "I", false)
  | 66 => ("CommandHouseModel", "caughtBytes", "[I", true)
  | 67 => ("CommandHouseModel", "caughtMany", "[I", true)
  | 68 => ("CommandHouseModel", "input", "I", false)
  | 69 => ("CommandHouseModel", "inputs", "I", false)
  | 70 => ("CommandHouseModel", "inputFile", "[I", true)
  | 71 => ("CommandHouseModel", "inputAt", "[I", true)
  | 72 => ("CommandHouseModel", "inputTo", "[I", true)
  | 73 => ("CommandHouseModel", "nameInTexts", "[Z", true)
  | 74 => ("CommandHouseModel", "numberRead", "J", false)
  | 75 => ("CommandHouseModel", "made", "[I", true)
  | 76 => ("CommandHouseModel", "mades", "I", false)
  | 77 => ("CommandHouseModel", "isSet", "Z", false)
  | 78 => ("CommandHouseModel", "wantedAt", "I", false)
  | 79 => ("CommandHouseModel", "wantedLong", "I", false)
  | 80 => ("CommandHouseModel", "isInSet", "Z", false)
  | 81 => ("CommandHouseModel", "fields", "I", false)
  | 82 => ("CommandHouseModel", "fieldBase", "I", false)
  | 83 => ("CommandHouseModel", "fieldAt", "[I", true)
  | 84 => ("CommandHouseModel", "fieldLong", "[I", true)
  | 85 => ("CommandHouseModel", "arithAt", "I", false)
  | 86 => ("CommandHouseModel", "arithEnd", "I", false)
  | 87 => ("CommandHouseModel", "arithBad", "Z", false)
  | _ => ("CommandHouseModel", "arithDeep", "I", false)
def tyX13 : Nat → FieldType := fun k => match k with
  | 0 => .array .int
  | 1 => .int
  | 2 => .array .int
  | 3 => .int
  | 4 => .array .int
  | 5 => .int
  | 6 => .int
  | 7 => .array .int
  | 8 => .int
  | 9 => .int
  | 10 => .int
  | 11 => .array .int
  | 12 => .int
  | 13 => .array .int
  | 14 => .array .int
  | 15 => .array .int
  | 16 => .array .int
  | 17 => .array .int
  | 18 => .int
  | 19 => .array .int
  | 20 => .int
  | 21 => .int
  | 22 => .array .int
  | 23 => .array .int
  | 24 => .array .int
  | 25 => .array .int
  | 26 => .int
  | 27 => .array .int
  | 28 => .array .int
  | 29 => .int
  | 30 => .array .int
  | 31 => .array .int
  | 32 => .array .int
  | 33 => .array .int
  | 34 => .boolean
  | 35 => .boolean
  | 36 => .int
  | 37 => .array .int
  | 38 => .int
  | 39 => .int
  | 40 => .array .int
  | 41 => .array .int
  | 42 => .array .int
  | 43 => .array .int
  | 44 => .int
  | 45 => .int
  | 46 => .int
  | 47 => .int
  | 48 => .int
  | 49 => .int
  | 50 => .int
  | 51 => .int
  | 52 => .int
  | 53 => .int
  | 54 => .int
  | 55 => .int
  | 56 => .int
  | 57 => .int
  | 58 => .array .int
  | 59 => .boolean
  | 60 => .array .int
  | 61 => .int
  | 62 => .boolean
  | 63 => .int
  | 64 => .int
  | 65 => .int
  | 66 => .array .int
  | 67 => .array .int
  | 68 => .int
  | 69 => .int
  | 70 => .array .int
  | 71 => .array .int
  | 72 => .array .int
  | 73 => .array .boolean
  | 74 => .long
  | 75 => .array .int
  | 76 => .int
  | 77 => .boolean
  | 78 => .int
  | 79 => .int
  | 80 => .boolean
  | 81 => .int
  | 82 => .int
  | 83 => .array .int
  | 84 => .array .int
  | 85 => .int
  | 86 => .int
  | 87 => .boolean
  | _ => .int
theorem nmX13 : ∀ a, a < 89 → ∀ b, b < 89 → a ≠ b → (TX13 a).2.1 ≠ (TX13 b).2.1 := by decide +kernel
theorem tyX13_ok : ∀ k, k < 89 → parseFieldDescriptor (TX13 k).2.2.1 = some (tyX13 k) := by decide +kernel
abbrev vwCl : List vw_C := [(RJx4a65c, TJx4a65c, 3), (RX0, TX0, 11), (RX1, TX1, 20), (RX2, TX2, 2), (RX3, TX3, 4), (RX4, TX4, 9), (RX5, TX5, 19), (RX6, TX6, 4), (RX7, TX7, 14), (RX8, TX8, 9), (RX9, TX9, 15), (RX10, TX10, 16), (RX11, TX11, 9), (RX12, TX12, 5), (RX13, TX13, 89)]
abbrev cX3_init_ : ByteArray := prog_5_method_2_code
def yX3_init_ : MethodName := ⟨RX3, "<init>", "(ILCommandHouse$Bytes;)V"⟩
abbrev cX3_init : ByteArray := prog_5_method_1_code
def yX3_init : MethodName := ⟨RX3, "<init>", "([BII)V"⟩
abbrev cX0_init : ByteArray := prog_2_method_1_code
def yX0_init : MethodName := ⟨RX0, "<init>", "()V"⟩
abbrev cX8_init : ByteArray := prog_10_method_1_code
def yX8_init : MethodName := ⟨RX8, "<init>", "()V"⟩
abbrev cX4_init : ByteArray := prog_6_method_1_code
def yX4_init : MethodName := ⟨RX4, "<init>", "()V"⟩
abbrev cJxa1e45_init_da8c8 : ByteArray := prog_28_method_1_code
def yJxa1e45_init_da8c8 : MethodName := ⟨RJxa1e45, "<init>", "()V"⟩
abbrev cJxc12de_init_da8c8 : ByteArray := prog_29_method_1_code
def yJxc12de_init_da8c8 : MethodName := ⟨RJxc12de, "<init>", "()V"⟩
abbrev cJx4a65c_init_da8c8 : ByteArray := prog_30_method_2_code
def yJx4a65c_init_da8c8 : MethodName := ⟨RJx4a65c, "<init>", "()V"⟩
abbrev cX11_init : ByteArray := prog_13_method_1_code
def yX11_init : MethodName := ⟨RX11, "<init>", "(LCommandHouse$Book;)V"⟩
abbrev cX2_init : ByteArray := prog_4_method_1_code
def yX2_init : MethodName := ⟨RX2, "<init>", "(LCommandHouse$Book;)V"⟩
abbrev cX10_init : ByteArray := prog_12_method_1_code
def yX10_init : MethodName := ⟨RX10, "<init>", "()V"⟩
abbrev cX6_begin : ByteArray := prog_8_method_2_code
def yX6_begin : MethodName := ⟨RX6, "begin", "(LCommandHouse$Bytes;)V"⟩
abbrev cX6_init : ByteArray := prog_8_method_1_code
def yX6_init : MethodName := ⟨RX6, "<init>", "(LCommandHouse$Bytes;)V"⟩
abbrev cX9_init : ByteArray := prog_11_method_1_code
def yX9_init : MethodName := ⟨RX9, "<init>", "(LCommandHouse$Bytes;Z)V"⟩
abbrev cX5_init : ByteArray := prog_7_method_1_code
def yX5_init : MethodName := ⟨RX5, "<init>", "()V"⟩
abbrev cJx4a65c_grow_92f84 : ByteArray := prog_30_method_6_code
def yJx4a65c_grow_92f84 : MethodName := ⟨RJx4a65c, "grow", "(I)[Ljava/lang/Object;"⟩
abbrev cJx4a65c_grow_d5877 : ByteArray := prog_30_method_7_code
def yJx4a65c_grow_d5877 : MethodName := ⟨RJx4a65c, "grow", "()[Ljava/lang/Object;"⟩
abbrev cJx4a65c_add_72be8 : ByteArray := prog_30_method_24_code
def yJx4a65c_add_72be8 : MethodName := ⟨RJx4a65c, "add", "(Ljava/lang/Object;[Ljava/lang/Object;I)V"⟩
abbrev cJx4a65c_add_9ea2d : ByteArray := prog_30_method_25_code
def yJx4a65c_add_9ea2d : MethodName := ⟨RJx4a65c, "add", "(Ljava/lang/Object;)Z"⟩
abbrev cX7_init : ByteArray := prog_9_method_1_code
def yX7_init : MethodName := ⟨RX7, "<init>", "(LCommandHouse$Book;LCommandHouse$Words;LCommandHouse$Builtins;)V"⟩
abbrev cX12_init : ByteArray := prog_1_method_1_code
def yX12_init : MethodName := ⟨RX12, "<init>", "()V"⟩
abbrev cX13_init : ByteArray := prog_15_method_1_code
def yX13_init : MethodName := ⟨RX13, "<init>", "()V"⟩
abbrev cX12_lay : ByteArray := prog_1_method_13_code
def yX12_lay : MethodName := ⟨RX12, "lay", "(I)V"⟩
abbrev cX12_feed : ByteArray := prog_1_method_2_code
def yX12_feed : MethodName := ⟨RX12, "feed", "(IIIII)I"⟩
abbrev cX13_feed : ByteArray := prog_15_method_168_code
def yX13_feed : MethodName := ⟨RX13, "feed", "(IIIII)I"⟩
abbrev cX12_end : ByteArray := prog_1_method_3_code
def yX12_end : MethodName := ⟨RX12, "end", "(I)I"⟩
abbrev cX13_isIn : ByteArray := prog_15_method_2_code
def yX13_isIn : MethodName := ⟨RX13, "isIn", "(III)Z"⟩
abbrev cX13_end : ByteArray := prog_15_method_169_code
def yX13_end : MethodName := ⟨RX13, "end", "(I)I"⟩
abbrev cX12_input : ByteArray := prog_1_method_4_code
def yX12_input : MethodName := ⟨RX12, "input", "()I"⟩
abbrev cX13_input : ByteArray := prog_15_method_170_code
def yX13_input : MethodName := ⟨RX13, "input", "()I"⟩
abbrev cX0_begin : ByteArray := prog_2_method_2_code
def yX0_begin : MethodName := ⟨RX0, "begin", "()V"⟩
abbrev cX11_begin : ByteArray := prog_13_method_2_code
def yX11_begin : MethodName := ⟨RX11, "begin", "()V"⟩
abbrev cX10_setParameters : ByteArray := prog_12_method_6_code
def yX10_setParameters : MethodName := ⟨RX10, "setParameters", "([LCommandHouse$Bytes;I)V"⟩
abbrev cX10_clear : ByteArray := prog_12_method_2_code
def yX10_clear : MethodName := ⟨RX10, "clear", "([LCommandHouse$Bytes;)V"⟩
abbrev cJx4a65c_size_8abf5 : ByteArray := prog_30_method_8_code
def yJx4a65c_size_8abf5 : MethodName := ⟨RJx4a65c, "size", "()I"⟩
abbrev cJ3_checkIndex_8e157 : ByteArray := prog_38_method_11_code
def yJ3_checkIndex_8e157 : MethodName := ⟨RJ3, "checkIndex", "(IILjava/util/function/BiFunction;)I"⟩
abbrev cJ15_checkIndex_7cf53 : ByteArray := prog_34_method_17_code
def yJ15_checkIndex_7cf53 : MethodName := ⟨RJ15, "checkIndex", "(II)I"⟩
abbrev cJx4a65c_elementData_915e3 : ByteArray := prog_30_method_18_code
def yJx4a65c_elementData_915e3 : MethodName := ⟨RJx4a65c, "elementData", "(I)Ljava/lang/Object;"⟩
abbrev cJx4a65c_get_915e3 : ByteArray := prog_30_method_20_code
def yJx4a65c_get_915e3 : MethodName := ⟨RJx4a65c, "get", "(I)Ljava/lang/Object;"⟩
abbrev cX7_push : ByteArray := prog_9_method_3_code
def yX7_push : MethodName := ⟨RX7, "push", "(I)LCommandHouse$Frame;"⟩
abbrev cX0_spend : ByteArray := prog_2_method_5_code
def yX0_spend : MethodName := ⟨RX0, "spend", "(I)Z"⟩
abbrev cX7_begin : ByteArray := prog_9_method_2_code
def yX7_begin : MethodName := ⟨RX7, "begin", "(LCommandHouse$Bytes;LCommandHouse$Input;)V"⟩
abbrev cX9_codeAt : ByteArray := prog_11_method_3_code
def yX9_codeAt : MethodName := ⟨RX9, "codeAt", "(I)I"⟩
abbrev cX9_isWrong : ByteArray := prog_11_method_4_code
def yX9_isWrong : MethodName := ⟨RX9, "isWrong", "()Z"⟩
abbrev cX9_at : ByteArray := prog_11_method_6_code
def yX9_at : MethodName := ⟨RX9, "at", "(I)I"⟩
abbrev cX9_passBlanks : ByteArray := prog_11_method_12_code
def yX9_passBlanks : MethodName := ⟨RX9, "passBlanks", "()V"⟩
abbrev cX9_takeTexts : ByteArray := prog_11_method_16_code
def yX9_takeTexts : MethodName := ⟨RX9, "takeTexts", "()V"⟩
abbrev cX9_advance : ByteArray := prog_11_method_11_code
def yX9_advance : MethodName := ⟨RX9, "advance", "()V"⟩
abbrev cX9_skipLines : ByteArray := prog_11_method_19_code
def yX9_skipLines : MethodName := ⟨RX9, "skipLines", "()V"⟩
abbrev cX9_next : ByteArray := prog_11_method_2_code
def yX9_next : MethodName := ⟨RX9, "next", "()I"⟩
abbrev cX7_frameAt : ByteArray := prog_9_method_4_code
def yX7_frameAt : MethodName := ⟨RX7, "frameAt", "(I)LCommandHouse$Frame;"⟩
abbrev cX7_top : ByteArray := prog_9_method_5_code
def yX7_top : MethodName := ⟨RX7, "top", "()LCommandHouse$Frame;"⟩
abbrev cX7_comeBack : ByteArray := prog_9_method_7_code
def yX7_comeBack : MethodName := ⟨RX7, "comeBack", "(LCommandHouse$Frame;)V"⟩
abbrev cX7_pop : ByteArray := prog_9_method_6_code
def yX7_pop : MethodName := ⟨RX7, "pop", "()V"⟩
abbrev cX7_proceed : ByteArray := prog_9_method_12_code
def yX7_proceed : MethodName := ⟨RX7, "proceed", "()V"⟩
abbrev cX7_step : ByteArray := prog_9_method_18_code
def yX7_step : MethodName := ⟨RX7, "step", "(LCommandHouse$Script;I)V"⟩
abbrev cX7_execute : ByteArray := prog_9_method_13_code
def yX7_execute : MethodName := ⟨RX7, "execute", "(I)V"⟩
abbrev cX12_run : ByteArray := prog_1_method_5_code
def yX12_run : MethodName := ⟨RX12, "run", "()I"⟩
abbrev cX13_newInput : ByteArray := prog_15_method_70_code
def yX13_newInput : MethodName := ⟨RX13, "newInput", "(III)I"⟩
abbrev cX13_addWork : ByteArray := prog_15_method_63_code
def yX13_addWork : MethodName := ⟨RX13, "addWork", "(I)Z"⟩
abbrev cX13_begun : ByteArray := prog_15_method_102_code
def yX13_begun : MethodName := ⟨RX13, "begun", "([III)I"⟩
abbrev cX13_keep : ByteArray := prog_15_method_32_code
def yX13_keep : MethodName := ⟨RX13, "keep", "()V"⟩
abbrev cX13_byteAt : ByteArray := prog_15_method_7_code
def yX13_byteAt : MethodName := ⟨RX13, "byteAt", "(I)I"⟩
abbrev cX13_isBlank : ByteArray := prog_15_method_3_code
def yX13_isBlank : MethodName := ⟨RX13, "isBlank", "(I)Z"⟩
abbrev cX13_passBlanks : ByteArray := prog_15_method_15_code
def yX13_passBlanks : MethodName := ⟨RX13, "passBlanks", "()V"⟩
abbrev cX13_next : ByteArray := prog_15_method_16_code
def yX13_next : MethodName := ⟨RX13, "next", "()V"⟩
abbrev cX13_go : ByteArray := prog_15_method_21_code
def yX13_go : MethodName := ⟨RX13, "go", "()V"⟩
abbrev cX13_back : ByteArray := prog_15_method_33_code
def yX13_back : MethodName := ⟨RX13, "back", "()V"⟩
abbrev cX13_unkeep : ByteArray := prog_15_method_34_code
def yX13_unkeep : MethodName := ⟨RX13, "unkeep", "()V"⟩
abbrev cX13_runScript : ByteArray := prog_15_method_103_code
def yX13_runScript : MethodName := ⟨RX13, "runScript", "(II)I"⟩
abbrev cX13_run : ByteArray := prog_15_method_171_code
def yX13_run : MethodName := ⟨RX13, "run", "()I"⟩
abbrev cX12_size : ByteArray := prog_1_method_6_code
def yX12_size : MethodName := ⟨RX12, "size", "()I"⟩
abbrev cX13_size : ByteArray := prog_15_method_172_code
def yX13_size : MethodName := ⟨RX13, "size", "()I"⟩
abbrev cX3_at : ByteArray := prog_5_method_3_code
def yX3_at : MethodName := ⟨RX3, "at", "(I)I"⟩
abbrev cX12_out : ByteArray := prog_1_method_7_code
def yX12_out : MethodName := ⟨RX12, "out", "(I)I"⟩
abbrev cX13_out : ByteArray := prog_15_method_173_code
def yX13_out : MethodName := ⟨RX13, "out", "(I)I"⟩
abbrev cX12_diagnostic : ByteArray := prog_1_method_8_code
def yX12_diagnostic : MethodName := ⟨RX12, "diagnostic", "(I)I"⟩
abbrev cX13_diagnostic : ByteArray := prog_15_method_174_code
def yX13_diagnostic : MethodName := ⟨RX13, "diagnostic", "(I)I"⟩
abbrev cX12_wrong : ByteArray := prog_1_method_9_code
def yX12_wrong : MethodName := ⟨RX12, "wrong", "()I"⟩
abbrev cX13_wrong : ByteArray := prog_15_method_175_code
def yX13_wrong : MethodName := ⟨RX13, "wrong", "()I"⟩
abbrev cX0_fileBytes : ByteArray := prog_2_method_10_code
def yX0_fileBytes : MethodName := ⟨RX0, "fileBytes", "()I"⟩
abbrev cX12_count : ByteArray := prog_1_method_10_code
def yX12_count : MethodName := ⟨RX12, "count", "(I)I"⟩
abbrev cX13_count : ByteArray := prog_15_method_176_code
def yX13_count : MethodName := ⟨RX13, "count", "(I)I"⟩
abbrev cX0_fileAt : ByteArray := prog_2_method_9_code
def yX0_fileAt : MethodName := ⟨RX0, "fileAt", "(I)LCommandHouse$Bytes;"⟩
abbrev cX12_file : ByteArray := prog_1_method_11_code
def yX12_file : MethodName := ⟨RX12, "file", "(I)I"⟩
abbrev cX13_ranked : ByteArray := prog_15_method_75_code
def yX13_ranked : MethodName := ⟨RX13, "ranked", "(I)I"⟩
abbrev cX13_file : ByteArray := prog_15_method_177_code
def yX13_file : MethodName := ⟨RX13, "file", "(I)I"⟩
abbrev cX12_byteOf : ByteArray := prog_1_method_12_code
def yX12_byteOf : MethodName := ⟨RX12, "byteOf", "(IZI)I"⟩
abbrev cX13_byteOf : ByteArray := prog_15_method_178_code
def yX13_byteOf : MethodName := ⟨RX13, "byteOf", "(IZI)I"⟩
theorem dJ15_checkIndex_7cf53_0 : decode cJ15_checkIndex_7cf53 0 = .ok (.iload_n 0, 1) := by decide +kernel
theorem dJ15_checkIndex_7cf53_1 : decode cJ15_checkIndex_7cf53 1 = .ok (.iload_n 1, 1) := by decide +kernel
theorem dJ15_checkIndex_7cf53_2 : decode cJ15_checkIndex_7cf53 2 = .ok (.aconst_null, 1) := by decide +kernel
theorem dJ15_checkIndex_7cf53_3 : decode cJ15_checkIndex_7cf53 3 = .ok (.invokestatic 105, 3) := by decide +kernel
theorem dJ15_checkIndex_7cf53_6 : decode cJ15_checkIndex_7cf53 6 = .ok (.ireturn, 1) := by decide +kernel
theorem dJ3_checkIndex_8e157_0 : decode cJ3_checkIndex_8e157 0 = .ok (.iload_n 0, 1) := by decide +kernel
theorem dJ3_checkIndex_8e157_1 : decode cJ3_checkIndex_8e157 1 = .ok (.ifCond .lt 8, 3) := by decide +kernel
theorem dJ3_checkIndex_8e157_4 : decode cJ3_checkIndex_8e157 4 = .ok (.iload_n 0, 1) := by decide +kernel
theorem dJ3_checkIndex_8e157_5 : decode cJ3_checkIndex_8e157 5 = .ok (.iload_n 1, 1) := by decide +kernel
theorem dJ3_checkIndex_8e157_6 : decode cJ3_checkIndex_8e157 6 = .ok (.if_icmp .lt 10, 3) := by decide +kernel
theorem dJ3_checkIndex_8e157_16 : decode cJ3_checkIndex_8e157 16 = .ok (.iload_n 0, 1) := by decide +kernel
theorem dJ3_checkIndex_8e157_17 : decode cJ3_checkIndex_8e157 17 = .ok (.ireturn, 1) := by decide +kernel
theorem dJx4a65c_add_72be8_0 : decode cJx4a65c_add_72be8 0 = .ok (.iload_n 3, 1) := by decide +kernel
theorem dJx4a65c_add_72be8_1 : decode cJx4a65c_add_72be8 1 = .ok (.aload_n 2, 1) := by decide +kernel
theorem dJx4a65c_add_72be8_2 : decode cJx4a65c_add_72be8 2 = .ok (.arraylength, 1) := by decide +kernel
theorem dJx4a65c_add_72be8_3 : decode cJx4a65c_add_72be8 3 = .ok (.if_icmp .ne 8, 3) := by decide +kernel
theorem dJx4a65c_add_72be8_6 : decode cJx4a65c_add_72be8 6 = .ok (.aload_n 0, 1) := by decide +kernel
theorem dJx4a65c_add_72be8_7 : decode cJx4a65c_add_72be8 7 = .ok (.invokevirtual 129, 3) := by decide +kernel
theorem dJx4a65c_add_72be8_10 : decode cJx4a65c_add_72be8 10 = .ok (.astore_n 2, 1) := by decide +kernel
theorem dJx4a65c_add_72be8_11 : decode cJx4a65c_add_72be8 11 = .ok (.aload_n 2, 1) := by decide +kernel
theorem dJx4a65c_add_72be8_12 : decode cJx4a65c_add_72be8 12 = .ok (.iload_n 3, 1) := by decide +kernel
theorem dJx4a65c_add_72be8_13 : decode cJx4a65c_add_72be8 13 = .ok (.aload_n 1, 1) := by decide +kernel
theorem dJx4a65c_add_72be8_14 : decode cJx4a65c_add_72be8 14 = .ok (.aastore, 1) := by decide +kernel
theorem dJx4a65c_add_72be8_15 : decode cJx4a65c_add_72be8 15 = .ok (.aload_n 0, 1) := by decide +kernel
theorem dJx4a65c_add_72be8_16 : decode cJx4a65c_add_72be8 16 = .ok (.iload_n 3, 1) := by decide +kernel
theorem dJx4a65c_add_72be8_17 : decode cJx4a65c_add_72be8 17 = .ok (.iconst 1, 1) := by decide +kernel
theorem dJx4a65c_add_72be8_18 : decode cJx4a65c_add_72be8 18 = .ok (.iadd, 1) := by decide +kernel
theorem dJx4a65c_add_72be8_19 : decode cJx4a65c_add_72be8 19 = .ok (.putfield 48, 3) := by decide +kernel
theorem dJx4a65c_add_72be8_22 : decode cJx4a65c_add_72be8 22 = .ok (.return_, 1) := by decide +kernel
theorem dJx4a65c_add_9ea2d_0 : decode cJx4a65c_add_9ea2d 0 = .ok (.aload_n 0, 1) := by decide +kernel
theorem dJx4a65c_add_9ea2d_1 : decode cJx4a65c_add_9ea2d 1 = .ok (.dup, 1) := by decide +kernel
theorem dJx4a65c_add_9ea2d_2 : decode cJx4a65c_add_9ea2d 2 = .ok (.getfield 63, 3) := by decide +kernel
theorem dJx4a65c_add_9ea2d_5 : decode cJx4a65c_add_9ea2d 5 = .ok (.iconst 1, 1) := by decide +kernel
theorem dJx4a65c_add_9ea2d_6 : decode cJx4a65c_add_9ea2d 6 = .ok (.iadd, 1) := by decide +kernel
theorem dJx4a65c_add_9ea2d_7 : decode cJx4a65c_add_9ea2d 7 = .ok (.putfield 63, 3) := by decide +kernel
theorem dJx4a65c_add_9ea2d_10 : decode cJx4a65c_add_9ea2d 10 = .ok (.aload_n 0, 1) := by decide +kernel
theorem dJx4a65c_add_9ea2d_11 : decode cJx4a65c_add_9ea2d 11 = .ok (.aload_n 1, 1) := by decide +kernel
theorem dJx4a65c_add_9ea2d_12 : decode cJx4a65c_add_9ea2d 12 = .ok (.aload_n 0, 1) := by decide +kernel
theorem dJx4a65c_add_9ea2d_13 : decode cJx4a65c_add_9ea2d 13 = .ok (.getfield 9, 3) := by decide +kernel
theorem dJx4a65c_add_9ea2d_16 : decode cJx4a65c_add_9ea2d 16 = .ok (.aload_n 0, 1) := by decide +kernel
theorem dJx4a65c_add_9ea2d_17 : decode cJx4a65c_add_9ea2d 17 = .ok (.getfield 48, 3) := by decide +kernel
theorem dJx4a65c_add_9ea2d_20 : decode cJx4a65c_add_9ea2d 20 = .ok (.invokevirtual 131, 3) := by decide +kernel
theorem dJx4a65c_add_9ea2d_23 : decode cJx4a65c_add_9ea2d 23 = .ok (.iconst 1, 1) := by decide +kernel
theorem dJx4a65c_add_9ea2d_24 : decode cJx4a65c_add_9ea2d 24 = .ok (.ireturn, 1) := by decide +kernel
theorem dJx4a65c_elementData_915e3_0 : decode cJx4a65c_elementData_915e3 0 = .ok (.aload_n 0, 1) := by decide +kernel
theorem dJx4a65c_elementData_915e3_1 : decode cJx4a65c_elementData_915e3 1 = .ok (.getfield 9, 3) := by decide +kernel
theorem dJx4a65c_elementData_915e3_4 : decode cJx4a65c_elementData_915e3 4 = .ok (.iload_n 1, 1) := by decide +kernel
theorem dJx4a65c_elementData_915e3_5 : decode cJx4a65c_elementData_915e3 5 = .ok (.aaload, 1) := by decide +kernel
theorem dJx4a65c_elementData_915e3_6 : decode cJx4a65c_elementData_915e3 6 = .ok (.areturn, 1) := by decide +kernel
theorem dJx4a65c_get_915e3_0 : decode cJx4a65c_get_915e3 0 = .ok (.iload_n 1, 1) := by decide +kernel
theorem dJx4a65c_get_915e3_1 : decode cJx4a65c_get_915e3 1 = .ok (.aload_n 0, 1) := by decide +kernel
theorem dJx4a65c_get_915e3_2 : decode cJx4a65c_get_915e3 2 = .ok (.getfield 48, 3) := by decide +kernel
theorem dJx4a65c_get_915e3_5 : decode cJx4a65c_get_915e3 5 = .ok (.invokestatic 118, 3) := by decide +kernel
theorem dJx4a65c_get_915e3_8 : decode cJx4a65c_get_915e3 8 = .ok (.pop, 1) := by decide +kernel
theorem dJx4a65c_get_915e3_9 : decode cJx4a65c_get_915e3 9 = .ok (.aload_n 0, 1) := by decide +kernel
theorem dJx4a65c_get_915e3_10 : decode cJx4a65c_get_915e3 10 = .ok (.iload_n 1, 1) := by decide +kernel
theorem dJx4a65c_get_915e3_11 : decode cJx4a65c_get_915e3 11 = .ok (.invokevirtual 123, 3) := by decide +kernel
theorem dJx4a65c_get_915e3_14 : decode cJx4a65c_get_915e3 14 = .ok (.areturn, 1) := by decide +kernel
theorem dJx4a65c_grow_92f84_0 : decode cJx4a65c_grow_92f84 0 = .ok (.aload_n 0, 1) := by decide +kernel
theorem dJx4a65c_grow_92f84_1 : decode cJx4a65c_grow_92f84 1 = .ok (.getfield 9, 3) := by decide +kernel
theorem dJx4a65c_grow_92f84_4 : decode cJx4a65c_grow_92f84 4 = .ok (.arraylength, 1) := by decide +kernel
theorem dJx4a65c_grow_92f84_5 : decode cJx4a65c_grow_92f84 5 = .ok (.istore_n 2, 1) := by decide +kernel
theorem dJx4a65c_grow_92f84_6 : decode cJx4a65c_grow_92f84 6 = .ok (.iload_n 2, 1) := by decide +kernel
theorem dJx4a65c_grow_92f84_7 : decode cJx4a65c_grow_92f84 7 = .ok (.ifCond .gt 13, 3) := by decide +kernel
theorem dJx4a65c_grow_92f84_10 : decode cJx4a65c_grow_92f84 10 = .ok (.aload_n 0, 1) := by decide +kernel
theorem dJx4a65c_grow_92f84_11 : decode cJx4a65c_grow_92f84 11 = .ok (.getfield 9, 3) := by decide +kernel
theorem dJx4a65c_grow_92f84_14 : decode cJx4a65c_grow_92f84 14 = .ok (.getstatic 39, 3) := by decide +kernel
theorem dJx4a65c_grow_92f84_17 : decode cJx4a65c_grow_92f84 17 = .ok (.if_acmp .eq 28, 3) := by decide +kernel
theorem dJx4a65c_grow_92f84_45 : decode cJx4a65c_grow_92f84 45 = .ok (.aload_n 0, 1) := by decide +kernel
theorem dJx4a65c_grow_92f84_46 : decode cJx4a65c_grow_92f84 46 = .ok (.bipush 10, 2) := by decide +kernel
theorem dJx4a65c_grow_92f84_48 : decode cJx4a65c_grow_92f84 48 = .ok (.iload_n 1, 1) := by decide +kernel
theorem dJx4a65c_grow_92f84_49 : decode cJx4a65c_grow_92f84 49 = .ok (.invokestatic 79, 3) := by decide +kernel
theorem dJx4a65c_grow_92f84_52 : decode cJx4a65c_grow_92f84 52 = .ok (.anewarray 7, 3) := by decide +kernel
theorem dJx4a65c_grow_92f84_55 : decode cJx4a65c_grow_92f84 55 = .ok (.dup_x1, 1) := by decide +kernel
theorem dJx4a65c_grow_92f84_56 : decode cJx4a65c_grow_92f84 56 = .ok (.putfield 9, 3) := by decide +kernel
theorem dJx4a65c_grow_92f84_59 : decode cJx4a65c_grow_92f84 59 = .ok (.areturn, 1) := by decide +kernel
theorem dJx4a65c_grow_d5877_0 : decode cJx4a65c_grow_d5877 0 = .ok (.aload_n 0, 1) := by decide +kernel
theorem dJx4a65c_grow_d5877_1 : decode cJx4a65c_grow_d5877 1 = .ok (.aload_n 0, 1) := by decide +kernel
theorem dJx4a65c_grow_d5877_2 : decode cJx4a65c_grow_d5877 2 = .ok (.getfield 48, 3) := by decide +kernel
theorem dJx4a65c_grow_d5877_5 : decode cJx4a65c_grow_d5877 5 = .ok (.iconst 1, 1) := by decide +kernel
theorem dJx4a65c_grow_d5877_6 : decode cJx4a65c_grow_d5877 6 = .ok (.iadd, 1) := by decide +kernel
theorem dJx4a65c_grow_d5877_7 : decode cJx4a65c_grow_d5877 7 = .ok (.invokevirtual 69, 3) := by decide +kernel
theorem dJx4a65c_grow_d5877_10 : decode cJx4a65c_grow_d5877 10 = .ok (.areturn, 1) := by decide +kernel
theorem dJx4a65c_init_da8c8_0 : decode cJx4a65c_init_da8c8 0 = .ok (.aload_n 0, 1) := by decide +kernel
theorem dJx4a65c_init_da8c8_1 : decode cJx4a65c_init_da8c8 1 = .ok (.invokespecial 1, 3) := by decide +kernel
theorem dJx4a65c_init_da8c8_4 : decode cJx4a65c_init_da8c8 4 = .ok (.aload_n 0, 1) := by decide +kernel
theorem dJx4a65c_init_da8c8_5 : decode cJx4a65c_init_da8c8 5 = .ok (.getstatic 39, 3) := by decide +kernel
theorem dJx4a65c_init_da8c8_8 : decode cJx4a65c_init_da8c8 8 = .ok (.putfield 9, 3) := by decide +kernel
theorem dJx4a65c_init_da8c8_11 : decode cJx4a65c_init_da8c8 11 = .ok (.return_, 1) := by decide +kernel
theorem dJx4a65c_size_8abf5_0 : decode cJx4a65c_size_8abf5 0 = .ok (.aload_n 0, 1) := by decide +kernel
theorem dJx4a65c_size_8abf5_1 : decode cJx4a65c_size_8abf5 1 = .ok (.getfield 48, 3) := by decide +kernel
theorem dJx4a65c_size_8abf5_4 : decode cJx4a65c_size_8abf5 4 = .ok (.ireturn, 1) := by decide +kernel
theorem dJxa1e45_init_da8c8_0 : decode cJxa1e45_init_da8c8 0 = .ok (.aload_n 0, 1) := by decide +kernel
theorem dJxa1e45_init_da8c8_1 : decode cJxa1e45_init_da8c8 1 = .ok (.invokespecial 1, 3) := by decide +kernel
theorem dJxa1e45_init_da8c8_4 : decode cJxa1e45_init_da8c8 4 = .ok (.return_, 1) := by decide +kernel
theorem dJxc12de_init_da8c8_0 : decode cJxc12de_init_da8c8 0 = .ok (.aload_n 0, 1) := by decide +kernel
theorem dJxc12de_init_da8c8_1 : decode cJxc12de_init_da8c8 1 = .ok (.invokespecial 1, 3) := by decide +kernel
theorem dJxc12de_init_da8c8_4 : decode cJxc12de_init_da8c8 4 = .ok (.aload_n 0, 1) := by decide +kernel
theorem dJxc12de_init_da8c8_5 : decode cJxc12de_init_da8c8 5 = .ok (.iconst 0, 1) := by decide +kernel
theorem dJxc12de_init_da8c8_6 : decode cJxc12de_init_da8c8 6 = .ok (.putfield 7, 3) := by decide +kernel
theorem dJxc12de_init_da8c8_9 : decode cJxc12de_init_da8c8 9 = .ok (.return_, 1) := by decide +kernel
theorem dL_law_0 : decode cL_law 0 = .ok (.new 7, 3) := by decide +kernel
theorem dL_law_3 : decode cL_law 3 = .ok (.dup, 1) := by decide +kernel
theorem dL_law_4 : decode cL_law 4 = .ok (.invokespecial 9, 3) := by decide +kernel
theorem dL_law_7 : decode cL_law 7 = .ok (.astore_n 1, 1) := by decide +kernel
theorem dL_law_8 : decode cL_law 8 = .ok (.new 10, 3) := by decide +kernel
theorem dL_law_11 : decode cL_law 11 = .ok (.dup, 1) := by decide +kernel
theorem dL_law_12 : decode cL_law 12 = .ok (.invokespecial 12, 3) := by decide +kernel
theorem dL_law_15 : decode cL_law 15 = .ok (.astore_n 2, 1) := by decide +kernel
theorem dL_law_16 : decode cL_law 16 = .ok (.iconst 0, 1) := by decide +kernel
theorem dL_law_17 : decode cL_law 17 = .ok (.istore_n 3, 1) := by decide +kernel
theorem dL_law_18 : decode cL_law 18 = .ok (.iload_n 3, 1) := by decide +kernel
theorem dL_law_19 : decode cL_law 19 = .ok (.aload_n 0, 1) := by decide +kernel
theorem dL_law_20 : decode cL_law 20 = .ok (.arraylength, 1) := by decide +kernel
theorem dL_law_21 : decode cL_law 21 = .ok (.bipush 6, 2) := by decide +kernel
theorem dL_law_23 : decode cL_law 23 = .ok (.isub, 1) := by decide +kernel
theorem dL_law_24 : decode cL_law 24 = .ok (.if_icmp .gt 363, 3) := by decide +kernel
theorem dL_law_27 : decode cL_law 27 = .ok (.aload_n 0, 1) := by decide +kernel
theorem dL_law_28 : decode cL_law 28 = .ok (.iload_n 3, 1) := by decide +kernel
theorem dL_law_29 : decode cL_law 29 = .ok (.iaload, 1) := by decide +kernel
theorem dL_law_30 : decode cL_law 30 = .ok (.bipush 15, 2) := by decide +kernel
theorem dL_law_32 : decode cL_law 32 = .ok (.iand, 1) := by decide +kernel
theorem dL_law_33 : decode cL_law 33 = .ok (.tableswitch 348 0 10 #[59, 122, 145, 158, 171, 184, 207, 230, 243, 266, 289], 59) := by decide +kernel
theorem dL_law_92 : decode cL_law 92 = .ok (.aload_n 1, 1) := by decide +kernel
theorem dL_law_93 : decode cL_law 93 = .ok (.aload_n 0, 1) := by decide +kernel
theorem dL_law_94 : decode cL_law 94 = .ok (.iload_n 3, 1) := by decide +kernel
theorem dL_law_95 : decode cL_law 95 = .ok (.iconst 1, 1) := by decide +kernel
theorem dL_law_96 : decode cL_law 96 = .ok (.iadd, 1) := by decide +kernel
theorem dL_law_97 : decode cL_law 97 = .ok (.iaload, 1) := by decide +kernel
theorem dL_law_98 : decode cL_law 98 = .ok (.aload_n 0, 1) := by decide +kernel
theorem dL_law_99 : decode cL_law 99 = .ok (.iload_n 3, 1) := by decide +kernel
theorem dL_law_100 : decode cL_law 100 = .ok (.iconst 2, 1) := by decide +kernel
theorem dL_law_101 : decode cL_law 101 = .ok (.iadd, 1) := by decide +kernel
theorem dL_law_102 : decode cL_law 102 = .ok (.iaload, 1) := by decide +kernel
theorem dL_law_103 : decode cL_law 103 = .ok (.aload_n 0, 1) := by decide +kernel
theorem dL_law_104 : decode cL_law 104 = .ok (.iload_n 3, 1) := by decide +kernel
theorem dL_law_105 : decode cL_law 105 = .ok (.iconst 3, 1) := by decide +kernel
theorem dL_law_106 : decode cL_law 106 = .ok (.iadd, 1) := by decide +kernel
theorem dL_law_107 : decode cL_law 107 = .ok (.iaload, 1) := by decide +kernel
theorem dL_law_108 : decode cL_law 108 = .ok (.aload_n 0, 1) := by decide +kernel
theorem dL_law_109 : decode cL_law 109 = .ok (.iload_n 3, 1) := by decide +kernel
theorem dL_law_110 : decode cL_law 110 = .ok (.iconst 4, 1) := by decide +kernel
theorem dL_law_111 : decode cL_law 111 = .ok (.iadd, 1) := by decide +kernel
theorem dL_law_112 : decode cL_law 112 = .ok (.iaload, 1) := by decide +kernel
theorem dL_law_113 : decode cL_law 113 = .ok (.aload_n 0, 1) := by decide +kernel
theorem dL_law_114 : decode cL_law 114 = .ok (.iload_n 3, 1) := by decide +kernel
theorem dL_law_115 : decode cL_law 115 = .ok (.iconst 5, 1) := by decide +kernel
theorem dL_law_116 : decode cL_law 116 = .ok (.iadd, 1) := by decide +kernel
theorem dL_law_117 : decode cL_law 117 = .ok (.iaload, 1) := by decide +kernel
theorem dL_law_118 : decode cL_law 118 = .ok (.invokevirtual 13, 3) := by decide +kernel
theorem dL_law_121 : decode cL_law 121 = .ok (.aload_n 2, 1) := by decide +kernel
theorem dL_law_122 : decode cL_law 122 = .ok (.aload_n 0, 1) := by decide +kernel
theorem dL_law_123 : decode cL_law 123 = .ok (.iload_n 3, 1) := by decide +kernel
theorem dL_law_124 : decode cL_law 124 = .ok (.iconst 1, 1) := by decide +kernel
theorem dL_law_125 : decode cL_law 125 = .ok (.iadd, 1) := by decide +kernel
theorem dL_law_126 : decode cL_law 126 = .ok (.iaload, 1) := by decide +kernel
theorem dL_law_127 : decode cL_law 127 = .ok (.aload_n 0, 1) := by decide +kernel
theorem dL_law_128 : decode cL_law 128 = .ok (.iload_n 3, 1) := by decide +kernel
theorem dL_law_129 : decode cL_law 129 = .ok (.iconst 2, 1) := by decide +kernel
theorem dL_law_130 : decode cL_law 130 = .ok (.iadd, 1) := by decide +kernel
theorem dL_law_131 : decode cL_law 131 = .ok (.iaload, 1) := by decide +kernel
theorem dL_law_132 : decode cL_law 132 = .ok (.aload_n 0, 1) := by decide +kernel
theorem dL_law_133 : decode cL_law 133 = .ok (.iload_n 3, 1) := by decide +kernel
theorem dL_law_134 : decode cL_law 134 = .ok (.iconst 3, 1) := by decide +kernel
theorem dL_law_135 : decode cL_law 135 = .ok (.iadd, 1) := by decide +kernel
theorem dL_law_136 : decode cL_law 136 = .ok (.iaload, 1) := by decide +kernel
theorem dL_law_137 : decode cL_law 137 = .ok (.aload_n 0, 1) := by decide +kernel
theorem dL_law_138 : decode cL_law 138 = .ok (.iload_n 3, 1) := by decide +kernel
theorem dL_law_139 : decode cL_law 139 = .ok (.iconst 4, 1) := by decide +kernel
theorem dL_law_140 : decode cL_law 140 = .ok (.iadd, 1) := by decide +kernel
theorem dL_law_141 : decode cL_law 141 = .ok (.iaload, 1) := by decide +kernel
theorem dL_law_142 : decode cL_law 142 = .ok (.aload_n 0, 1) := by decide +kernel
theorem dL_law_143 : decode cL_law 143 = .ok (.iload_n 3, 1) := by decide +kernel
theorem dL_law_144 : decode cL_law 144 = .ok (.iconst 5, 1) := by decide +kernel
theorem dL_law_145 : decode cL_law 145 = .ok (.iadd, 1) := by decide +kernel
theorem dL_law_146 : decode cL_law 146 = .ok (.iaload, 1) := by decide +kernel
theorem dL_law_147 : decode cL_law 147 = .ok (.invokevirtual 17, 3) := by decide +kernel
theorem dL_law_150 : decode cL_law 150 = .ok (.if_icmp .eq 231, 3) := by decide +kernel
theorem dL_law_155 : decode cL_law 155 = .ok (.aload_n 1, 1) := by decide +kernel
theorem dL_law_156 : decode cL_law 156 = .ok (.aload_n 0, 1) := by decide +kernel
theorem dL_law_157 : decode cL_law 157 = .ok (.iload_n 3, 1) := by decide +kernel
theorem dL_law_158 : decode cL_law 158 = .ok (.iconst 1, 1) := by decide +kernel
theorem dL_law_159 : decode cL_law 159 = .ok (.iadd, 1) := by decide +kernel
theorem dL_law_160 : decode cL_law 160 = .ok (.iaload, 1) := by decide +kernel
theorem dL_law_161 : decode cL_law 161 = .ok (.invokevirtual 18, 3) := by decide +kernel
theorem dL_law_164 : decode cL_law 164 = .ok (.aload_n 2, 1) := by decide +kernel
theorem dL_law_165 : decode cL_law 165 = .ok (.aload_n 0, 1) := by decide +kernel
theorem dL_law_166 : decode cL_law 166 = .ok (.iload_n 3, 1) := by decide +kernel
theorem dL_law_167 : decode cL_law 167 = .ok (.iconst 1, 1) := by decide +kernel
theorem dL_law_168 : decode cL_law 168 = .ok (.iadd, 1) := by decide +kernel
theorem dL_law_169 : decode cL_law 169 = .ok (.iaload, 1) := by decide +kernel
theorem dL_law_170 : decode cL_law 170 = .ok (.invokevirtual 22, 3) := by decide +kernel
theorem dL_law_173 : decode cL_law 173 = .ok (.if_icmp .eq 208, 3) := by decide +kernel
theorem dL_law_178 : decode cL_law 178 = .ok (.aload_n 1, 1) := by decide +kernel
theorem dL_law_179 : decode cL_law 179 = .ok (.invokevirtual 23, 3) := by decide +kernel
theorem dL_law_182 : decode cL_law 182 = .ok (.aload_n 2, 1) := by decide +kernel
theorem dL_law_183 : decode cL_law 183 = .ok (.invokevirtual 27, 3) := by decide +kernel
theorem dL_law_186 : decode cL_law 186 = .ok (.if_icmp .eq 195, 3) := by decide +kernel
theorem dL_law_191 : decode cL_law 191 = .ok (.aload_n 1, 1) := by decide +kernel
theorem dL_law_192 : decode cL_law 192 = .ok (.invokevirtual 28, 3) := by decide +kernel
theorem dL_law_195 : decode cL_law 195 = .ok (.aload_n 2, 1) := by decide +kernel
theorem dL_law_196 : decode cL_law 196 = .ok (.invokevirtual 31, 3) := by decide +kernel
theorem dL_law_199 : decode cL_law 199 = .ok (.if_icmp .eq 182, 3) := by decide +kernel
theorem dL_law_204 : decode cL_law 204 = .ok (.aload_n 1, 1) := by decide +kernel
theorem dL_law_205 : decode cL_law 205 = .ok (.invokevirtual 32, 3) := by decide +kernel
theorem dL_law_208 : decode cL_law 208 = .ok (.aload_n 2, 1) := by decide +kernel
theorem dL_law_209 : decode cL_law 209 = .ok (.invokevirtual 35, 3) := by decide +kernel
theorem dL_law_212 : decode cL_law 212 = .ok (.if_icmp .eq 169, 3) := by decide +kernel
theorem dL_law_217 : decode cL_law 217 = .ok (.aload_n 1, 1) := by decide +kernel
theorem dL_law_218 : decode cL_law 218 = .ok (.aload_n 0, 1) := by decide +kernel
theorem dL_law_219 : decode cL_law 219 = .ok (.iload_n 3, 1) := by decide +kernel
theorem dL_law_220 : decode cL_law 220 = .ok (.iconst 1, 1) := by decide +kernel
theorem dL_law_221 : decode cL_law 221 = .ok (.iadd, 1) := by decide +kernel
theorem dL_law_222 : decode cL_law 222 = .ok (.iaload, 1) := by decide +kernel
theorem dL_law_223 : decode cL_law 223 = .ok (.invokevirtual 36, 3) := by decide +kernel
theorem dL_law_226 : decode cL_law 226 = .ok (.aload_n 2, 1) := by decide +kernel
theorem dL_law_227 : decode cL_law 227 = .ok (.aload_n 0, 1) := by decide +kernel
theorem dL_law_228 : decode cL_law 228 = .ok (.iload_n 3, 1) := by decide +kernel
theorem dL_law_229 : decode cL_law 229 = .ok (.iconst 1, 1) := by decide +kernel
theorem dL_law_230 : decode cL_law 230 = .ok (.iadd, 1) := by decide +kernel
theorem dL_law_231 : decode cL_law 231 = .ok (.iaload, 1) := by decide +kernel
theorem dL_law_232 : decode cL_law 232 = .ok (.invokevirtual 39, 3) := by decide +kernel
theorem dL_law_235 : decode cL_law 235 = .ok (.if_icmp .eq 146, 3) := by decide +kernel
theorem dL_law_240 : decode cL_law 240 = .ok (.aload_n 1, 1) := by decide +kernel
theorem dL_law_241 : decode cL_law 241 = .ok (.aload_n 0, 1) := by decide +kernel
theorem dL_law_242 : decode cL_law 242 = .ok (.iload_n 3, 1) := by decide +kernel
theorem dL_law_243 : decode cL_law 243 = .ok (.iconst 1, 1) := by decide +kernel
theorem dL_law_244 : decode cL_law 244 = .ok (.iadd, 1) := by decide +kernel
theorem dL_law_245 : decode cL_law 245 = .ok (.iaload, 1) := by decide +kernel
theorem dL_law_246 : decode cL_law 246 = .ok (.invokevirtual 40, 3) := by decide +kernel
theorem dL_law_249 : decode cL_law 249 = .ok (.aload_n 2, 1) := by decide +kernel
theorem dL_law_250 : decode cL_law 250 = .ok (.aload_n 0, 1) := by decide +kernel
theorem dL_law_251 : decode cL_law 251 = .ok (.iload_n 3, 1) := by decide +kernel
theorem dL_law_252 : decode cL_law 252 = .ok (.iconst 1, 1) := by decide +kernel
theorem dL_law_253 : decode cL_law 253 = .ok (.iadd, 1) := by decide +kernel
theorem dL_law_254 : decode cL_law 254 = .ok (.iaload, 1) := by decide +kernel
theorem dL_law_255 : decode cL_law 255 = .ok (.invokevirtual 43, 3) := by decide +kernel
theorem dL_law_258 : decode cL_law 258 = .ok (.if_icmp .eq 123, 3) := by decide +kernel
theorem dL_law_263 : decode cL_law 263 = .ok (.aload_n 1, 1) := by decide +kernel
theorem dL_law_264 : decode cL_law 264 = .ok (.invokevirtual 44, 3) := by decide +kernel
theorem dL_law_267 : decode cL_law 267 = .ok (.aload_n 2, 1) := by decide +kernel
theorem dL_law_268 : decode cL_law 268 = .ok (.invokevirtual 47, 3) := by decide +kernel
theorem dL_law_271 : decode cL_law 271 = .ok (.if_icmp .eq 110, 3) := by decide +kernel
theorem dL_law_276 : decode cL_law 276 = .ok (.aload_n 1, 1) := by decide +kernel
theorem dL_law_277 : decode cL_law 277 = .ok (.aload_n 0, 1) := by decide +kernel
theorem dL_law_278 : decode cL_law 278 = .ok (.iload_n 3, 1) := by decide +kernel
theorem dL_law_279 : decode cL_law 279 = .ok (.iconst 1, 1) := by decide +kernel
theorem dL_law_280 : decode cL_law 280 = .ok (.iadd, 1) := by decide +kernel
theorem dL_law_281 : decode cL_law 281 = .ok (.iaload, 1) := by decide +kernel
theorem dL_law_282 : decode cL_law 282 = .ok (.invokevirtual 48, 3) := by decide +kernel
theorem dL_law_285 : decode cL_law 285 = .ok (.aload_n 2, 1) := by decide +kernel
theorem dL_law_286 : decode cL_law 286 = .ok (.aload_n 0, 1) := by decide +kernel
theorem dL_law_287 : decode cL_law 287 = .ok (.iload_n 3, 1) := by decide +kernel
theorem dL_law_288 : decode cL_law 288 = .ok (.iconst 1, 1) := by decide +kernel
theorem dL_law_289 : decode cL_law 289 = .ok (.iadd, 1) := by decide +kernel
theorem dL_law_290 : decode cL_law 290 = .ok (.iaload, 1) := by decide +kernel
theorem dL_law_291 : decode cL_law 291 = .ok (.invokevirtual 51, 3) := by decide +kernel
theorem dL_law_294 : decode cL_law 294 = .ok (.if_icmp .eq 87, 3) := by decide +kernel
theorem dL_law_299 : decode cL_law 299 = .ok (.aload_n 1, 1) := by decide +kernel
theorem dL_law_300 : decode cL_law 300 = .ok (.aload_n 0, 1) := by decide +kernel
theorem dL_law_301 : decode cL_law 301 = .ok (.iload_n 3, 1) := by decide +kernel
theorem dL_law_302 : decode cL_law 302 = .ok (.iconst 1, 1) := by decide +kernel
theorem dL_law_303 : decode cL_law 303 = .ok (.iadd, 1) := by decide +kernel
theorem dL_law_304 : decode cL_law 304 = .ok (.iaload, 1) := by decide +kernel
theorem dL_law_305 : decode cL_law 305 = .ok (.invokevirtual 52, 3) := by decide +kernel
theorem dL_law_308 : decode cL_law 308 = .ok (.aload_n 2, 1) := by decide +kernel
theorem dL_law_309 : decode cL_law 309 = .ok (.aload_n 0, 1) := by decide +kernel
theorem dL_law_310 : decode cL_law 310 = .ok (.iload_n 3, 1) := by decide +kernel
theorem dL_law_311 : decode cL_law 311 = .ok (.iconst 1, 1) := by decide +kernel
theorem dL_law_312 : decode cL_law 312 = .ok (.iadd, 1) := by decide +kernel
theorem dL_law_313 : decode cL_law 313 = .ok (.iaload, 1) := by decide +kernel
theorem dL_law_314 : decode cL_law 314 = .ok (.invokevirtual 55, 3) := by decide +kernel
theorem dL_law_317 : decode cL_law 317 = .ok (.if_icmp .eq 64, 3) := by decide +kernel
theorem dL_law_322 : decode cL_law 322 = .ok (.aload_n 1, 1) := by decide +kernel
theorem dL_law_323 : decode cL_law 323 = .ok (.aload_n 0, 1) := by decide +kernel
theorem dL_law_324 : decode cL_law 324 = .ok (.iload_n 3, 1) := by decide +kernel
theorem dL_law_325 : decode cL_law 325 = .ok (.iconst 1, 1) := by decide +kernel
theorem dL_law_326 : decode cL_law 326 = .ok (.iadd, 1) := by decide +kernel
theorem dL_law_327 : decode cL_law 327 = .ok (.iaload, 1) := by decide +kernel
theorem dL_law_328 : decode cL_law 328 = .ok (.aload_n 0, 1) := by decide +kernel
theorem dL_law_329 : decode cL_law 329 = .ok (.iload_n 3, 1) := by decide +kernel
theorem dL_law_330 : decode cL_law 330 = .ok (.iconst 2, 1) := by decide +kernel
theorem dL_law_331 : decode cL_law 331 = .ok (.iadd, 1) := by decide +kernel
theorem dL_law_332 : decode cL_law 332 = .ok (.iaload, 1) := by decide +kernel
theorem dL_law_333 : decode cL_law 333 = .ok (.ifCond .eq 7, 3) := by decide +kernel
theorem dL_law_336 : decode cL_law 336 = .ok (.iconst 1, 1) := by decide +kernel
theorem dL_law_337 : decode cL_law 337 = .ok (.goto 4, 3) := by decide +kernel
theorem dL_law_340 : decode cL_law 340 = .ok (.iconst 0, 1) := by decide +kernel
theorem dL_law_341 : decode cL_law 341 = .ok (.aload_n 0, 1) := by decide +kernel
theorem dL_law_342 : decode cL_law 342 = .ok (.iload_n 3, 1) := by decide +kernel
theorem dL_law_343 : decode cL_law 343 = .ok (.iconst 3, 1) := by decide +kernel
theorem dL_law_344 : decode cL_law 344 = .ok (.iadd, 1) := by decide +kernel
theorem dL_law_345 : decode cL_law 345 = .ok (.iaload, 1) := by decide +kernel
theorem dL_law_346 : decode cL_law 346 = .ok (.invokevirtual 56, 3) := by decide +kernel
theorem dL_law_349 : decode cL_law 349 = .ok (.aload_n 2, 1) := by decide +kernel
theorem dL_law_350 : decode cL_law 350 = .ok (.aload_n 0, 1) := by decide +kernel
theorem dL_law_351 : decode cL_law 351 = .ok (.iload_n 3, 1) := by decide +kernel
theorem dL_law_352 : decode cL_law 352 = .ok (.iconst 1, 1) := by decide +kernel
theorem dL_law_353 : decode cL_law 353 = .ok (.iadd, 1) := by decide +kernel
theorem dL_law_354 : decode cL_law 354 = .ok (.iaload, 1) := by decide +kernel
theorem dL_law_355 : decode cL_law 355 = .ok (.aload_n 0, 1) := by decide +kernel
theorem dL_law_356 : decode cL_law 356 = .ok (.iload_n 3, 1) := by decide +kernel
theorem dL_law_357 : decode cL_law 357 = .ok (.iconst 2, 1) := by decide +kernel
theorem dL_law_358 : decode cL_law 358 = .ok (.iadd, 1) := by decide +kernel
theorem dL_law_359 : decode cL_law 359 = .ok (.iaload, 1) := by decide +kernel
theorem dL_law_360 : decode cL_law 360 = .ok (.ifCond .eq 7, 3) := by decide +kernel
theorem dL_law_363 : decode cL_law 363 = .ok (.iconst 1, 1) := by decide +kernel
theorem dL_law_364 : decode cL_law 364 = .ok (.goto 4, 3) := by decide +kernel
theorem dL_law_367 : decode cL_law 367 = .ok (.iconst 0, 1) := by decide +kernel
theorem dL_law_368 : decode cL_law 368 = .ok (.aload_n 0, 1) := by decide +kernel
theorem dL_law_369 : decode cL_law 369 = .ok (.iload_n 3, 1) := by decide +kernel
theorem dL_law_370 : decode cL_law 370 = .ok (.iconst 3, 1) := by decide +kernel
theorem dL_law_371 : decode cL_law 371 = .ok (.iadd, 1) := by decide +kernel
theorem dL_law_372 : decode cL_law 372 = .ok (.iaload, 1) := by decide +kernel
theorem dL_law_373 : decode cL_law 373 = .ok (.invokevirtual 60, 3) := by decide +kernel
theorem dL_law_376 : decode cL_law 376 = .ok (.if_icmp .eq 5, 3) := by decide +kernel
theorem dL_law_381 : decode cL_law 381 = .ok (.iinc 3 6, 3) := by decide +kernel
theorem dL_law_384 : decode cL_law 384 = .ok (.goto (-366), 3) := by decide +kernel
theorem dL_law_387 : decode cL_law 387 = .ok (.iconst 1, 1) := by decide +kernel
theorem dL_law_388 : decode cL_law 388 = .ok (.ireturn, 1) := by decide +kernel
theorem dX0_begin_0 : decode cX0_begin 0 = .ok (.aload_n 0, 1) := by decide +kernel
theorem dX0_begin_1 : decode cX0_begin 1 = .ok (.iconst 0, 1) := by decide +kernel
theorem dX0_begin_2 : decode cX0_begin 2 = .ok (.putfield 38, 3) := by decide +kernel
theorem dX0_begin_5 : decode cX0_begin 5 = .ok (.aload_n 0, 1) := by decide +kernel
theorem dX0_begin_6 : decode cX0_begin 6 = .ok (.iconst 0, 1) := by decide +kernel
theorem dX0_begin_7 : decode cX0_begin 7 = .ok (.putfield 42, 3) := by decide +kernel
theorem dX0_begin_10 : decode cX0_begin 10 = .ok (.aload_n 0, 1) := by decide +kernel
theorem dX0_begin_11 : decode cX0_begin 11 = .ok (.iconst 0, 1) := by decide +kernel
theorem dX0_begin_12 : decode cX0_begin 12 = .ok (.putfield 45, 3) := by decide +kernel
theorem dX0_begin_15 : decode cX0_begin 15 = .ok (.aload_n 0, 1) := by decide +kernel
theorem dX0_begin_16 : decode cX0_begin 16 = .ok (.iconst (-1), 1) := by decide +kernel
theorem dX0_begin_17 : decode cX0_begin 17 = .ok (.putfield 48, 3) := by decide +kernel
theorem dX0_begin_20 : decode cX0_begin 20 = .ok (.aload_n 0, 1) := by decide +kernel
theorem dX0_begin_21 : decode cX0_begin 21 = .ok (.iconst 0, 1) := by decide +kernel
theorem dX0_begin_22 : decode cX0_begin 22 = .ok (.putfield 51, 3) := by decide +kernel
theorem dX0_begin_25 : decode cX0_begin 25 = .ok (.aload_n 0, 1) := by decide +kernel
theorem dX0_begin_26 : decode cX0_begin 26 = .ok (.getfield 24, 3) := by decide +kernel
theorem dX0_begin_29 : decode cX0_begin 29 = .ok (.iconst 0, 1) := by decide +kernel
theorem dX0_begin_30 : decode cX0_begin 30 = .ok (.putfield 54, 3) := by decide +kernel
theorem dX0_begin_33 : decode cX0_begin 33 = .ok (.return_, 1) := by decide +kernel
theorem dX0_fileAt_0 : decode cX0_fileAt 0 = .ok (.iload_n 1, 1) := by decide +kernel
theorem dX0_fileAt_1 : decode cX0_fileAt 1 = .ok (.ifCond .lt 26, 3) := by decide +kernel
theorem dX0_fileAt_4 : decode cX0_fileAt 4 = .ok (.iload_n 1, 1) := by decide +kernel
theorem dX0_fileAt_5 : decode cX0_fileAt 5 = .ok (.aload_n 0, 1) := by decide +kernel
theorem dX0_fileAt_6 : decode cX0_fileAt 6 = .ok (.getfield 78, 3) := by decide +kernel
theorem dX0_fileAt_9 : decode cX0_fileAt 9 = .ok (.if_icmp .ge 18, 3) := by decide +kernel
theorem dX0_fileAt_27 : decode cX0_fileAt 27 = .ok (.aconst_null, 1) := by decide +kernel
theorem dX0_fileAt_28 : decode cX0_fileAt 28 = .ok (.areturn, 1) := by decide +kernel
theorem dX0_fileBytes_0 : decode cX0_fileBytes 0 = .ok (.iconst 0, 1) := by decide +kernel
theorem dX0_fileBytes_1 : decode cX0_fileBytes 1 = .ok (.istore_n 1, 1) := by decide +kernel
theorem dX0_fileBytes_2 : decode cX0_fileBytes 2 = .ok (.iconst 0, 1) := by decide +kernel
theorem dX0_fileBytes_3 : decode cX0_fileBytes 3 = .ok (.istore_n 2, 1) := by decide +kernel
theorem dX0_fileBytes_4 : decode cX0_fileBytes 4 = .ok (.iload_n 2, 1) := by decide +kernel
theorem dX0_fileBytes_5 : decode cX0_fileBytes 5 = .ok (.aload_n 0, 1) := by decide +kernel
theorem dX0_fileBytes_6 : decode cX0_fileBytes 6 = .ok (.getfield 78, 3) := by decide +kernel
theorem dX0_fileBytes_9 : decode cX0_fileBytes 9 = .ok (.if_icmp .ge 40, 3) := by decide +kernel
theorem dX0_fileBytes_49 : decode cX0_fileBytes 49 = .ok (.iload_n 1, 1) := by decide +kernel
theorem dX0_fileBytes_50 : decode cX0_fileBytes 50 = .ok (.ireturn, 1) := by decide +kernel
theorem dX0_init_0 : decode cX0_init 0 = .ok (.aload_n 0, 1) := by decide +kernel
theorem dX0_init_1 : decode cX0_init 1 = .ok (.invokespecial 3, 3) := by decide +kernel
theorem dX0_init_4 : decode cX0_init 4 = .ok (.aload_n 0, 1) := by decide +kernel
theorem dX0_init_5 : decode cX0_init 5 = .ok (.bipush 100, 2) := by decide +kernel
theorem dX0_init_7 : decode cX0_init 7 = .ok (.newarray .int, 2) := by decide +kernel
theorem dX0_init_9 : decode cX0_init 9 = .ok (.putfield 9, 3) := by decide +kernel
theorem dX0_init_12 : decode cX0_init 12 = .ok (.aload_n 0, 1) := by decide +kernel
theorem dX0_init_13 : decode cX0_init 13 = .ok (.bipush 20, 2) := by decide +kernel
theorem dX0_init_15 : decode cX0_init 15 = .ok (.anewarray 15, 3) := by decide +kernel
theorem dX0_init_18 : decode cX0_init 18 = .ok (.putfield 17, 3) := by decide +kernel
theorem dX0_init_21 : decode cX0_init 21 = .ok (.aload_n 0, 1) := by decide +kernel
theorem dX0_init_22 : decode cX0_init 22 = .ok (.new 15, 3) := by decide +kernel
theorem dX0_init_25 : decode cX0_init 25 = .ok (.dup, 1) := by decide +kernel
theorem dX0_init_26 : decode cX0_init 26 = .ok (.sipush 4000, 3) := by decide +kernel
theorem dX0_init_29 : decode cX0_init 29 = .ok (.aconst_null, 1) := by decide +kernel
theorem dX0_init_30 : decode cX0_init 30 = .ok (.invokespecial 21, 3) := by decide +kernel
theorem dX0_init_33 : decode cX0_init 33 = .ok (.putfield 24, 3) := by decide +kernel
theorem dX0_init_36 : decode cX0_init 36 = .ok (.aload_n 0, 1) := by decide +kernel
theorem dX0_init_37 : decode cX0_init 37 = .ok (.new 15, 3) := by decide +kernel
theorem dX0_init_40 : decode cX0_init 40 = .ok (.dup, 1) := by decide +kernel
theorem dX0_init_41 : decode cX0_init 41 = .ok (.getstatic 28, 3) := by decide +kernel
theorem dX0_init_44 : decode cX0_init 44 = .ok (.iconst 0, 1) := by decide +kernel
theorem dX0_init_45 : decode cX0_init 45 = .ok (.iconst 0, 1) := by decide +kernel
theorem dX0_init_46 : decode cX0_init 46 = .ok (.invokespecial 32, 3) := by decide +kernel
theorem dX0_init_49 : decode cX0_init 49 = .ok (.putfield 35, 3) := by decide +kernel
theorem dX0_init_52 : decode cX0_init 52 = .ok (.return_, 1) := by decide +kernel
theorem dX0_spend_0 : decode cX0_spend 0 = .ok (.aload_n 0, 1) := by decide +kernel
theorem dX0_spend_1 : decode cX0_spend 1 = .ok (.getfield 38, 3) := by decide +kernel
theorem dX0_spend_4 : decode cX0_spend 4 = .ok (.iconst 2, 1) := by decide +kernel
theorem dX0_spend_5 : decode cX0_spend 5 = .ok (.if_icmp .ne 5, 3) := by decide +kernel
theorem dX0_spend_10 : decode cX0_spend 10 = .ok (.iload_n 1, 1) := by decide +kernel
theorem dX0_spend_11 : decode cX0_spend 11 = .ok (.ldc 57, 2) := by decide +kernel
theorem dX0_spend_13 : decode cX0_spend 13 = .ok (.aload_n 0, 1) := by decide +kernel
theorem dX0_spend_14 : decode cX0_spend 14 = .ok (.getfield 58, 3) := by decide +kernel
theorem dX0_spend_17 : decode cX0_spend 17 = .ok (.isub, 1) := by decide +kernel
theorem dX0_spend_18 : decode cX0_spend 18 = .ok (.if_icmp .le 10, 3) := by decide +kernel
theorem dX0_spend_28 : decode cX0_spend 28 = .ok (.aload_n 0, 1) := by decide +kernel
theorem dX0_spend_29 : decode cX0_spend 29 = .ok (.dup, 1) := by decide +kernel
theorem dX0_spend_30 : decode cX0_spend 30 = .ok (.getfield 58, 3) := by decide +kernel
theorem dX0_spend_33 : decode cX0_spend 33 = .ok (.iload_n 1, 1) := by decide +kernel
theorem dX0_spend_34 : decode cX0_spend 34 = .ok (.iadd, 1) := by decide +kernel
theorem dX0_spend_35 : decode cX0_spend 35 = .ok (.putfield 58, 3) := by decide +kernel
theorem dX0_spend_38 : decode cX0_spend 38 = .ok (.iconst 1, 1) := by decide +kernel
theorem dX0_spend_39 : decode cX0_spend 39 = .ok (.ireturn, 1) := by decide +kernel
theorem dX10_clear_0 : decode cX10_clear 0 = .ok (.aload_n 0, 1) := by decide +kernel
theorem dX10_clear_1 : decode cX10_clear 1 = .ok (.iconst 0, 1) := by decide +kernel
theorem dX10_clear_2 : decode cX10_clear 2 = .ok (.putfield 45, 3) := by decide +kernel
theorem dX10_clear_5 : decode cX10_clear 5 = .ok (.aload_n 0, 1) := by decide +kernel
theorem dX10_clear_6 : decode cX10_clear 6 = .ok (.aload_n 1, 1) := by decide +kernel
theorem dX10_clear_7 : decode cX10_clear 7 = .ok (.iconst 0, 1) := by decide +kernel
theorem dX10_clear_8 : decode cX10_clear 8 = .ok (.invokevirtual 49, 3) := by decide +kernel
theorem dX10_clear_11 : decode cX10_clear 11 = .ok (.aload_n 0, 1) := by decide +kernel
theorem dX10_clear_12 : decode cX10_clear 12 = .ok (.iconst 0, 1) := by decide +kernel
theorem dX10_clear_13 : decode cX10_clear 13 = .ok (.putfield 53, 3) := by decide +kernel
theorem dX10_clear_16 : decode cX10_clear 16 = .ok (.aload_n 0, 1) := by decide +kernel
theorem dX10_clear_17 : decode cX10_clear 17 = .ok (.iconst 0, 1) := by decide +kernel
theorem dX10_clear_18 : decode cX10_clear 18 = .ok (.putfield 56, 3) := by decide +kernel
theorem dX10_clear_21 : decode cX10_clear 21 = .ok (.aload_n 0, 1) := by decide +kernel
theorem dX10_clear_22 : decode cX10_clear 22 = .ok (.iconst 0, 1) := by decide +kernel
theorem dX10_clear_23 : decode cX10_clear 23 = .ok (.putfield 60, 3) := by decide +kernel
theorem dX10_clear_26 : decode cX10_clear 26 = .ok (.aload_n 0, 1) := by decide +kernel
theorem dX10_clear_27 : decode cX10_clear 27 = .ok (.iconst 0, 1) := by decide +kernel
theorem dX10_clear_28 : decode cX10_clear 28 = .ok (.putfield 63, 3) := by decide +kernel
theorem dX10_clear_31 : decode cX10_clear 31 = .ok (.return_, 1) := by decide +kernel
theorem dX10_init_0 : decode cX10_init 0 = .ok (.aload_n 0, 1) := by decide +kernel
theorem dX10_init_1 : decode cX10_init 1 = .ok (.invokespecial 3, 3) := by decide +kernel
theorem dX10_init_4 : decode cX10_init 4 = .ok (.aload_n 0, 1) := by decide +kernel
theorem dX10_init_5 : decode cX10_init 5 = .ok (.bipush 60, 2) := by decide +kernel
theorem dX10_init_7 : decode cX10_init 7 = .ok (.anewarray 9, 3) := by decide +kernel
theorem dX10_init_10 : decode cX10_init 10 = .ok (.putfield 11, 3) := by decide +kernel
theorem dX10_init_13 : decode cX10_init 13 = .ok (.aload_n 0, 1) := by decide +kernel
theorem dX10_init_14 : decode cX10_init 14 = .ok (.bipush 60, 2) := by decide +kernel
theorem dX10_init_16 : decode cX10_init 16 = .ok (.newarray .int, 2) := by decide +kernel
theorem dX10_init_18 : decode cX10_init 18 = .ok (.putfield 17, 3) := by decide +kernel
theorem dX10_init_21 : decode cX10_init 21 = .ok (.aload_n 0, 1) := by decide +kernel
theorem dX10_init_22 : decode cX10_init 22 = .ok (.bipush 60, 2) := by decide +kernel
theorem dX10_init_24 : decode cX10_init 24 = .ok (.newarray .int, 2) := by decide +kernel
theorem dX10_init_26 : decode cX10_init 26 = .ok (.putfield 21, 3) := by decide +kernel
theorem dX10_init_29 : decode cX10_init 29 = .ok (.aload_n 0, 1) := by decide +kernel
theorem dX10_init_30 : decode cX10_init 30 = .ok (.bipush 60, 2) := by decide +kernel
theorem dX10_init_32 : decode cX10_init 32 = .ok (.anewarray 9, 3) := by decide +kernel
theorem dX10_init_35 : decode cX10_init 35 = .ok (.putfield 24, 3) := by decide +kernel
theorem dX10_init_38 : decode cX10_init 38 = .ok (.aload_n 0, 1) := by decide +kernel
theorem dX10_init_39 : decode cX10_init 39 = .ok (.iconst 0, 1) := by decide +kernel
theorem dX10_init_40 : decode cX10_init 40 = .ok (.anewarray 9, 3) := by decide +kernel
theorem dX10_init_43 : decode cX10_init 43 = .ok (.putfield 27, 3) := by decide +kernel
theorem dX10_init_46 : decode cX10_init 46 = .ok (.aload_n 0, 1) := by decide +kernel
theorem dX10_init_47 : decode cX10_init 47 = .ok (.bipush 30, 2) := by decide +kernel
theorem dX10_init_49 : decode cX10_init 49 = .ok (.anewarray 30, 3) := by decide +kernel
theorem dX10_init_52 : decode cX10_init 52 = .ok (.putfield 32, 3) := by decide +kernel
theorem dX10_init_55 : decode cX10_init 55 = .ok (.aload_n 0, 1) := by decide +kernel
theorem dX10_init_56 : decode cX10_init 56 = .ok (.bipush 30, 2) := by decide +kernel
theorem dX10_init_58 : decode cX10_init 58 = .ok (.newarray .int, 2) := by decide +kernel
theorem dX10_init_60 : decode cX10_init 60 = .ok (.putfield 36, 3) := by decide +kernel
theorem dX10_init_63 : decode cX10_init 63 = .ok (.aload_n 0, 1) := by decide +kernel
theorem dX10_init_64 : decode cX10_init 64 = .ok (.bipush 30, 2) := by decide +kernel
theorem dX10_init_66 : decode cX10_init 66 = .ok (.newarray .int, 2) := by decide +kernel
theorem dX10_init_68 : decode cX10_init 68 = .ok (.putfield 39, 3) := by decide +kernel
theorem dX10_init_71 : decode cX10_init 71 = .ok (.aload_n 0, 1) := by decide +kernel
theorem dX10_init_72 : decode cX10_init 72 = .ok (.bipush 30, 2) := by decide +kernel
theorem dX10_init_74 : decode cX10_init 74 = .ok (.newarray .int, 2) := by decide +kernel
theorem dX10_init_76 : decode cX10_init 76 = .ok (.putfield 42, 3) := by decide +kernel
theorem dX10_init_79 : decode cX10_init 79 = .ok (.return_, 1) := by decide +kernel
theorem dX10_setParameters_0 : decode cX10_setParameters 0 = .ok (.aload_n 0, 1) := by decide +kernel
theorem dX10_setParameters_1 : decode cX10_setParameters 1 = .ok (.aload_n 1, 1) := by decide +kernel
theorem dX10_setParameters_2 : decode cX10_setParameters 2 = .ok (.putfield 27, 3) := by decide +kernel
theorem dX10_setParameters_5 : decode cX10_setParameters 5 = .ok (.aload_n 0, 1) := by decide +kernel
theorem dX10_setParameters_6 : decode cX10_setParameters 6 = .ok (.iload_n 2, 1) := by decide +kernel
theorem dX10_setParameters_7 : decode cX10_setParameters 7 = .ok (.putfield 75, 3) := by decide +kernel
theorem dX10_setParameters_10 : decode cX10_setParameters 10 = .ok (.return_, 1) := by decide +kernel
theorem dX11_begin_0 : decode cX11_begin 0 = .ok (.aload_n 0, 1) := by decide +kernel
theorem dX11_begin_1 : decode cX11_begin 1 = .ok (.iconst 0, 1) := by decide +kernel
theorem dX11_begin_2 : decode cX11_begin 2 = .ok (.putfield 55, 3) := by decide +kernel
theorem dX11_begin_5 : decode cX11_begin 5 = .ok (.return_, 1) := by decide +kernel
theorem dX11_init_0 : decode cX11_init 0 = .ok (.aload_n 0, 1) := by decide +kernel
theorem dX11_init_1 : decode cX11_init 1 = .ok (.invokespecial 3, 3) := by decide +kernel
theorem dX11_init_4 : decode cX11_init 4 = .ok (.aload_n 0, 1) := by decide +kernel
theorem dX11_init_5 : decode cX11_init 5 = .ok (.new 9, 3) := by decide +kernel
theorem dX11_init_8 : decode cX11_init 8 = .ok (.dup, 1) := by decide +kernel
theorem dX11_init_9 : decode cX11_init 9 = .ok (.invokespecial 11, 3) := by decide +kernel
theorem dX11_init_12 : decode cX11_init 12 = .ok (.putfield 12, 3) := by decide +kernel
theorem dX11_init_15 : decode cX11_init 15 = .ok (.aload_n 0, 1) := by decide +kernel
theorem dX11_init_16 : decode cX11_init 16 = .ok (.new 18, 3) := by decide +kernel
theorem dX11_init_19 : decode cX11_init 19 = .ok (.dup, 1) := by decide +kernel
theorem dX11_init_20 : decode cX11_init 20 = .ok (.invokespecial 20, 3) := by decide +kernel
theorem dX11_init_23 : decode cX11_init 23 = .ok (.putfield 21, 3) := by decide +kernel
theorem dX11_init_26 : decode cX11_init 26 = .ok (.aload_n 0, 1) := by decide +kernel
theorem dX11_init_27 : decode cX11_init 27 = .ok (.new 25, 3) := by decide +kernel
theorem dX11_init_30 : decode cX11_init 30 = .ok (.dup, 1) := by decide +kernel
theorem dX11_init_31 : decode cX11_init 31 = .ok (.invokespecial 27, 3) := by decide +kernel
theorem dX11_init_34 : decode cX11_init 34 = .ok (.putfield 28, 3) := by decide +kernel
theorem dX11_init_37 : decode cX11_init 37 = .ok (.aload_n 0, 1) := by decide +kernel
theorem dX11_init_38 : decode cX11_init 38 = .ok (.bipush 11, 2) := by decide +kernel
theorem dX11_init_40 : decode cX11_init 40 = .ok (.newarray .byte, 2) := by decide +kernel
theorem dX11_init_42 : decode cX11_init 42 = .ok (.putfield 32, 3) := by decide +kernel
theorem dX11_init_45 : decode cX11_init 45 = .ok (.aload_n 0, 1) := by decide +kernel
theorem dX11_init_46 : decode cX11_init 46 = .ok (.new 36, 3) := by decide +kernel
theorem dX11_init_49 : decode cX11_init 49 = .ok (.dup, 1) := by decide +kernel
theorem dX11_init_50 : decode cX11_init 50 = .ok (.bipush 11, 2) := by decide +kernel
theorem dX11_init_52 : decode cX11_init 52 = .ok (.aconst_null, 1) := by decide +kernel
theorem dX11_init_53 : decode cX11_init 53 = .ok (.invokespecial 38, 3) := by decide +kernel
theorem dX11_init_56 : decode cX11_init 56 = .ok (.putfield 41, 3) := by decide +kernel
theorem dX11_init_59 : decode cX11_init 59 = .ok (.aload_n 0, 1) := by decide +kernel
theorem dX11_init_60 : decode cX11_init 60 = .ok (.aload_n 1, 1) := by decide +kernel
theorem dX11_init_61 : decode cX11_init 61 = .ok (.putfield 45, 3) := by decide +kernel
theorem dX11_init_64 : decode cX11_init 64 = .ok (.aload_n 0, 1) := by decide +kernel
theorem dX11_init_65 : decode cX11_init 65 = .ok (.aload_n 1, 1) := by decide +kernel
theorem dX11_init_66 : decode cX11_init 66 = .ok (.getfield 49, 3) := by decide +kernel
theorem dX11_init_69 : decode cX11_init 69 = .ok (.putfield 54, 3) := by decide +kernel
theorem dX11_init_72 : decode cX11_init 72 = .ok (.return_, 1) := by decide +kernel
theorem dX12_byteOf_0 : decode cX12_byteOf 0 = .ok (.aload_n 0, 1) := by decide +kernel
theorem dX12_byteOf_1 : decode cX12_byteOf 1 = .ok (.getfield 16, 3) := by decide +kernel
theorem dX12_byteOf_4 : decode cX12_byteOf 4 = .ok (.iload_n 1, 1) := by decide +kernel
theorem dX12_byteOf_5 : decode cX12_byteOf 5 = .ok (.invokevirtual 116, 3) := by decide +kernel
theorem dX12_byteOf_8 : decode cX12_byteOf 8 = .ok (.astore 4, 2) := by decide +kernel
theorem dX12_byteOf_10 : decode cX12_byteOf 10 = .ok (.aload 4, 2) := by decide +kernel
theorem dX12_byteOf_12 : decode cX12_byteOf 12 = .ok (.ifnonnull 5, 3) := by decide +kernel
theorem dX12_byteOf_15 : decode cX12_byteOf 15 = .ok (.iconst (-1), 1) := by decide +kernel
theorem dX12_byteOf_16 : decode cX12_byteOf 16 = .ok (.ireturn, 1) := by decide +kernel
theorem dX12_count_0 : decode cX12_count 0 = .ok (.iload_n 1, 1) := by decide +kernel
theorem dX12_count_1 : decode cX12_count 1 = .ok (.tableswitch 84 0 5 #[39, 47, 55, 63, 71, 79], 39) := by decide +kernel
theorem dX12_count_40 : decode cX12_count 40 = .ok (.aload_n 0, 1) := by decide +kernel
theorem dX12_count_41 : decode cX12_count 41 = .ok (.getfield 16, 3) := by decide +kernel
theorem dX12_count_44 : decode cX12_count 44 = .ok (.getfield 103, 3) := by decide +kernel
theorem dX12_count_47 : decode cX12_count 47 = .ok (.ireturn, 1) := by decide +kernel
theorem dX12_count_48 : decode cX12_count 48 = .ok (.aload_n 0, 1) := by decide +kernel
theorem dX12_count_49 : decode cX12_count 49 = .ok (.getfield 16, 3) := by decide +kernel
theorem dX12_count_52 : decode cX12_count 52 = .ok (.getfield 106, 3) := by decide +kernel
theorem dX12_count_55 : decode cX12_count 55 = .ok (.ireturn, 1) := by decide +kernel
theorem dX12_count_56 : decode cX12_count 56 = .ok (.aload_n 0, 1) := by decide +kernel
theorem dX12_count_57 : decode cX12_count 57 = .ok (.getfield 16, 3) := by decide +kernel
theorem dX12_count_60 : decode cX12_count 60 = .ok (.getfield 109, 3) := by decide +kernel
theorem dX12_count_63 : decode cX12_count 63 = .ok (.ireturn, 1) := by decide +kernel
theorem dX12_count_64 : decode cX12_count 64 = .ok (.aload_n 0, 1) := by decide +kernel
theorem dX12_count_65 : decode cX12_count 65 = .ok (.getfield 16, 3) := by decide +kernel
theorem dX12_count_68 : decode cX12_count 68 = .ok (.invokevirtual 112, 3) := by decide +kernel
theorem dX12_count_71 : decode cX12_count 71 = .ok (.ireturn, 1) := by decide +kernel
theorem dX12_count_72 : decode cX12_count 72 = .ok (.aload_n 0, 1) := by decide +kernel
theorem dX12_count_73 : decode cX12_count 73 = .ok (.getfield 16, 3) := by decide +kernel
theorem dX12_count_76 : decode cX12_count 76 = .ok (.getfield 93, 3) := by decide +kernel
theorem dX12_count_79 : decode cX12_count 79 = .ok (.ireturn, 1) := by decide +kernel
theorem dX12_count_80 : decode cX12_count 80 = .ok (.aload_n 0, 1) := by decide +kernel
theorem dX12_count_81 : decode cX12_count 81 = .ok (.getfield 48, 3) := by decide +kernel
theorem dX12_count_84 : decode cX12_count 84 = .ok (.ireturn, 1) := by decide +kernel
theorem dX12_count_85 : decode cX12_count 85 = .ok (.iconst (-1), 1) := by decide +kernel
theorem dX12_count_86 : decode cX12_count 86 = .ok (.ireturn, 1) := by decide +kernel
theorem dX12_diagnostic_0 : decode cX12_diagnostic 0 = .ok (.iload_n 1, 1) := by decide +kernel
theorem dX12_diagnostic_1 : decode cX12_diagnostic 1 = .ok (.ifCond .lt 32, 3) := by decide +kernel
theorem dX12_diagnostic_4 : decode cX12_diagnostic 4 = .ok (.iload_n 1, 1) := by decide +kernel
theorem dX12_diagnostic_5 : decode cX12_diagnostic 5 = .ok (.aload_n 0, 1) := by decide +kernel
theorem dX12_diagnostic_6 : decode cX12_diagnostic 6 = .ok (.getfield 16, 3) := by decide +kernel
theorem dX12_diagnostic_9 : decode cX12_diagnostic 9 = .ok (.getfield 93, 3) := by decide +kernel
theorem dX12_diagnostic_12 : decode cX12_diagnostic 12 = .ok (.if_icmp .ge 21, 3) := by decide +kernel
theorem dX12_diagnostic_33 : decode cX12_diagnostic 33 = .ok (.iconst (-1), 1) := by decide +kernel
theorem dX12_diagnostic_34 : decode cX12_diagnostic 34 = .ok (.ireturn, 1) := by decide +kernel
theorem dX12_end_0 : decode cX12_end 0 = .ok (.iload_n 1, 1) := by decide +kernel
theorem dX12_end_1 : decode cX12_end 1 = .ok (.ifCond .lt 11, 3) := by decide +kernel
theorem dX12_end_4 : decode cX12_end 4 = .ok (.iload_n 1, 1) := by decide +kernel
theorem dX12_end_5 : decode cX12_end 5 = .ok (.aload_n 0, 1) := by decide +kernel
theorem dX12_end_6 : decode cX12_end 6 = .ok (.getfield 48, 3) := by decide +kernel
theorem dX12_end_9 : decode cX12_end 9 = .ok (.if_icmp .le 5, 3) := by decide +kernel
theorem dX12_end_12 : decode cX12_end 12 = .ok (.iconst (-1), 1) := by decide +kernel
theorem dX12_end_13 : decode cX12_end 13 = .ok (.ireturn, 1) := by decide +kernel
theorem dX12_end_14 : decode cX12_end 14 = .ok (.aload_n 0, 1) := by decide +kernel
theorem dX12_end_15 : decode cX12_end 15 = .ok (.iload_n 1, 1) := by decide +kernel
theorem dX12_end_16 : decode cX12_end 16 = .ok (.putfield 48, 3) := by decide +kernel
theorem dX12_end_19 : decode cX12_end 19 = .ok (.iload_n 1, 1) := by decide +kernel
theorem dX12_end_20 : decode cX12_end 20 = .ok (.ireturn, 1) := by decide +kernel
theorem dX12_feed_0 : decode cX12_feed 0 = .ok (.aload_n 0, 1) := by decide +kernel
theorem dX12_feed_1 : decode cX12_feed 1 = .ok (.getfield 48, 3) := by decide +kernel
theorem dX12_feed_4 : decode cX12_feed 4 = .ok (.bipush 20, 2) := by decide +kernel
theorem dX12_feed_6 : decode cX12_feed 6 = .ok (.iadd, 1) := by decide +kernel
theorem dX12_feed_7 : decode cX12_feed 7 = .ok (.sipush 2000, 3) := by decide +kernel
theorem dX12_feed_10 : decode cX12_feed 10 = .ok (.if_icmp .le 5, 3) := by decide +kernel
theorem dX12_feed_15 : decode cX12_feed 15 = .ok (.aload_n 0, 1) := by decide +kernel
theorem dX12_feed_16 : decode cX12_feed 16 = .ok (.iload_n 1, 1) := by decide +kernel
theorem dX12_feed_17 : decode cX12_feed 17 = .ok (.invokevirtual 52, 3) := by decide +kernel
theorem dX12_feed_20 : decode cX12_feed 20 = .ok (.aload_n 0, 1) := by decide +kernel
theorem dX12_feed_21 : decode cX12_feed 21 = .ok (.iload_n 2, 1) := by decide +kernel
theorem dX12_feed_22 : decode cX12_feed 22 = .ok (.invokevirtual 52, 3) := by decide +kernel
theorem dX12_feed_25 : decode cX12_feed 25 = .ok (.aload_n 0, 1) := by decide +kernel
theorem dX12_feed_26 : decode cX12_feed 26 = .ok (.iload_n 3, 1) := by decide +kernel
theorem dX12_feed_27 : decode cX12_feed 27 = .ok (.invokevirtual 52, 3) := by decide +kernel
theorem dX12_feed_30 : decode cX12_feed 30 = .ok (.aload_n 0, 1) := by decide +kernel
theorem dX12_feed_31 : decode cX12_feed 31 = .ok (.iload 4, 2) := by decide +kernel
theorem dX12_feed_33 : decode cX12_feed 33 = .ok (.invokevirtual 52, 3) := by decide +kernel
theorem dX12_feed_36 : decode cX12_feed 36 = .ok (.aload_n 0, 1) := by decide +kernel
theorem dX12_feed_37 : decode cX12_feed 37 = .ok (.iload 5, 2) := by decide +kernel
theorem dX12_feed_39 : decode cX12_feed 39 = .ok (.invokevirtual 52, 3) := by decide +kernel
theorem dX12_feed_42 : decode cX12_feed 42 = .ok (.aload_n 0, 1) := by decide +kernel
theorem dX12_feed_43 : decode cX12_feed 43 = .ok (.getfield 48, 3) := by decide +kernel
theorem dX12_feed_46 : decode cX12_feed 46 = .ok (.ireturn, 1) := by decide +kernel
theorem dX12_file_0 : decode cX12_file 0 = .ok (.aload_n 0, 1) := by decide +kernel
theorem dX12_file_1 : decode cX12_file 1 = .ok (.getfield 16, 3) := by decide +kernel
theorem dX12_file_4 : decode cX12_file 4 = .ok (.iload_n 1, 1) := by decide +kernel
theorem dX12_file_5 : decode cX12_file 5 = .ok (.invokevirtual 116, 3) := by decide +kernel
theorem dX12_file_8 : decode cX12_file 8 = .ok (.astore_n 2, 1) := by decide +kernel
theorem dX12_file_9 : decode cX12_file 9 = .ok (.aload_n 2, 1) := by decide +kernel
theorem dX12_file_10 : decode cX12_file 10 = .ok (.ifnonnull 7, 3) := by decide +kernel
theorem dX12_file_13 : decode cX12_file 13 = .ok (.iconst (-1), 1) := by decide +kernel
theorem dX12_file_14 : decode cX12_file 14 = .ok (.goto 7, 3) := by decide +kernel
theorem dX12_file_21 : decode cX12_file 21 = .ok (.ireturn, 1) := by decide +kernel
theorem dX12_init_0 : decode cX12_init 0 = .ok (.aload_n 0, 1) := by decide +kernel
theorem dX12_init_1 : decode cX12_init 1 = .ok (.invokespecial 1, 3) := by decide +kernel
theorem dX12_init_4 : decode cX12_init 4 = .ok (.aload_n 0, 1) := by decide +kernel
theorem dX12_init_5 : decode cX12_init 5 = .ok (.sipush 2000, 3) := by decide +kernel
theorem dX12_init_8 : decode cX12_init 8 = .ok (.newarray .byte, 2) := by decide +kernel
theorem dX12_init_10 : decode cX12_init 10 = .ok (.putfield 9, 3) := by decide +kernel
theorem dX12_init_13 : decode cX12_init 13 = .ok (.aload_n 0, 1) := by decide +kernel
theorem dX12_init_14 : decode cX12_init 14 = .ok (.new 13, 3) := by decide +kernel
theorem dX12_init_17 : decode cX12_init 17 = .ok (.dup, 1) := by decide +kernel
theorem dX12_init_18 : decode cX12_init 18 = .ok (.invokespecial 15, 3) := by decide +kernel
theorem dX12_init_21 : decode cX12_init 21 = .ok (.putfield 16, 3) := by decide +kernel
theorem dX12_init_24 : decode cX12_init 24 = .ok (.new 20, 3) := by decide +kernel
theorem dX12_init_27 : decode cX12_init 27 = .ok (.dup, 1) := by decide +kernel
theorem dX12_init_28 : decode cX12_init 28 = .ok (.aload_n 0, 1) := by decide +kernel
theorem dX12_init_29 : decode cX12_init 29 = .ok (.getfield 16, 3) := by decide +kernel
theorem dX12_init_32 : decode cX12_init 32 = .ok (.invokespecial 22, 3) := by decide +kernel
theorem dX12_init_35 : decode cX12_init 35 = .ok (.astore_n 1, 1) := by decide +kernel
theorem dX12_init_36 : decode cX12_init 36 = .ok (.new 25, 3) := by decide +kernel
theorem dX12_init_39 : decode cX12_init 39 = .ok (.dup, 1) := by decide +kernel
theorem dX12_init_40 : decode cX12_init 40 = .ok (.aload_n 0, 1) := by decide +kernel
theorem dX12_init_41 : decode cX12_init 41 = .ok (.getfield 16, 3) := by decide +kernel
theorem dX12_init_44 : decode cX12_init 44 = .ok (.invokespecial 27, 3) := by decide +kernel
theorem dX12_init_47 : decode cX12_init 47 = .ok (.astore_n 2, 1) := by decide +kernel
theorem dX12_init_48 : decode cX12_init 48 = .ok (.aload_n 0, 1) := by decide +kernel
theorem dX12_init_49 : decode cX12_init 49 = .ok (.new 28, 3) := by decide +kernel
theorem dX12_init_52 : decode cX12_init 52 = .ok (.dup, 1) := by decide +kernel
theorem dX12_init_53 : decode cX12_init 53 = .ok (.aload_n 0, 1) := by decide +kernel
theorem dX12_init_54 : decode cX12_init 54 = .ok (.getfield 16, 3) := by decide +kernel
theorem dX12_init_57 : decode cX12_init 57 = .ok (.aload_n 1, 1) := by decide +kernel
theorem dX12_init_58 : decode cX12_init 58 = .ok (.aload_n 2, 1) := by decide +kernel
theorem dX12_init_59 : decode cX12_init 59 = .ok (.invokespecial 30, 3) := by decide +kernel
theorem dX12_init_62 : decode cX12_init 62 = .ok (.putfield 33, 3) := by decide +kernel
theorem dX12_init_65 : decode cX12_init 65 = .ok (.aload_n 1, 1) := by decide +kernel
theorem dX12_init_66 : decode cX12_init 66 = .ok (.aload_n 0, 1) := by decide +kernel
theorem dX12_init_67 : decode cX12_init 67 = .ok (.getfield 33, 3) := by decide +kernel
theorem dX12_init_70 : decode cX12_init 70 = .ok (.putfield 37, 3) := by decide +kernel
theorem dX12_init_73 : decode cX12_init 73 = .ok (.aload_n 2, 1) := by decide +kernel
theorem dX12_init_74 : decode cX12_init 74 = .ok (.aload_n 0, 1) := by decide +kernel
theorem dX12_init_75 : decode cX12_init 75 = .ok (.getfield 33, 3) := by decide +kernel
theorem dX12_init_78 : decode cX12_init 78 = .ok (.putfield 38, 3) := by decide +kernel
theorem dX12_init_81 : decode cX12_init 81 = .ok (.aload_n 0, 1) := by decide +kernel
theorem dX12_init_82 : decode cX12_init 82 = .ok (.new 39, 3) := by decide +kernel
theorem dX12_init_85 : decode cX12_init 85 = .ok (.dup, 1) := by decide +kernel
theorem dX12_init_86 : decode cX12_init 86 = .ok (.aload_n 0, 1) := by decide +kernel
theorem dX12_init_87 : decode cX12_init 87 = .ok (.getfield 9, 3) := by decide +kernel
theorem dX12_init_90 : decode cX12_init 90 = .ok (.iconst 0, 1) := by decide +kernel
theorem dX12_init_91 : decode cX12_init 91 = .ok (.iconst 0, 1) := by decide +kernel
theorem dX12_init_92 : decode cX12_init 92 = .ok (.invokespecial 41, 3) := by decide +kernel
theorem dX12_init_95 : decode cX12_init 95 = .ok (.putfield 44, 3) := by decide +kernel
theorem dX12_init_98 : decode cX12_init 98 = .ok (.return_, 1) := by decide +kernel
theorem dX12_input_0 : decode cX12_input 0 = .ok (.aload_n 0, 1) := by decide +kernel
theorem dX12_input_1 : decode cX12_input 1 = .ok (.new 39, 3) := by decide +kernel
theorem dX12_input_4 : decode cX12_input 4 = .ok (.dup, 1) := by decide +kernel
theorem dX12_input_5 : decode cX12_input 5 = .ok (.aload_n 0, 1) := by decide +kernel
theorem dX12_input_6 : decode cX12_input 6 = .ok (.getfield 9, 3) := by decide +kernel
theorem dX12_input_9 : decode cX12_input 9 = .ok (.iconst 0, 1) := by decide +kernel
theorem dX12_input_10 : decode cX12_input 10 = .ok (.aload_n 0, 1) := by decide +kernel
theorem dX12_input_11 : decode cX12_input 11 = .ok (.getfield 48, 3) := by decide +kernel
theorem dX12_input_14 : decode cX12_input 14 = .ok (.invokespecial 41, 3) := by decide +kernel
theorem dX12_input_17 : decode cX12_input 17 = .ok (.putfield 44, 3) := by decide +kernel
theorem dX12_input_20 : decode cX12_input 20 = .ok (.aload_n 0, 1) := by decide +kernel
theorem dX12_input_21 : decode cX12_input 21 = .ok (.iconst 0, 1) := by decide +kernel
theorem dX12_input_22 : decode cX12_input 22 = .ok (.putfield 48, 3) := by decide +kernel
theorem dX12_input_25 : decode cX12_input 25 = .ok (.aload_n 0, 1) := by decide +kernel
theorem dX12_input_26 : decode cX12_input 26 = .ok (.getfield 44, 3) := by decide +kernel
theorem dX12_input_29 : decode cX12_input 29 = .ok (.getfield 56, 3) := by decide +kernel
theorem dX12_input_32 : decode cX12_input 32 = .ok (.ireturn, 1) := by decide +kernel
theorem dX12_lay_0 : decode cX12_lay 0 = .ok (.bipush 24, 2) := by decide +kernel
theorem dX12_lay_2 : decode cX12_lay 2 = .ok (.istore_n 2, 1) := by decide +kernel
theorem dX12_lay_3 : decode cX12_lay 3 = .ok (.iload_n 2, 1) := by decide +kernel
theorem dX12_lay_4 : decode cX12_lay 4 = .ok (.ifCond .lt 42, 3) := by decide +kernel
theorem dX12_lay_7 : decode cX12_lay 7 = .ok (.aload_n 0, 1) := by decide +kernel
theorem dX12_lay_8 : decode cX12_lay 8 = .ok (.getfield 48, 3) := by decide +kernel
theorem dX12_lay_11 : decode cX12_lay 11 = .ok (.sipush 2000, 3) := by decide +kernel
theorem dX12_lay_14 : decode cX12_lay 14 = .ok (.if_icmp .ge 32, 3) := by decide +kernel
theorem dX12_lay_17 : decode cX12_lay 17 = .ok (.aload_n 0, 1) := by decide +kernel
theorem dX12_lay_18 : decode cX12_lay 18 = .ok (.getfield 9, 3) := by decide +kernel
theorem dX12_lay_21 : decode cX12_lay 21 = .ok (.aload_n 0, 1) := by decide +kernel
theorem dX12_lay_22 : decode cX12_lay 22 = .ok (.getfield 48, 3) := by decide +kernel
theorem dX12_lay_25 : decode cX12_lay 25 = .ok (.iload_n 1, 1) := by decide +kernel
theorem dX12_lay_26 : decode cX12_lay 26 = .ok (.iload_n 2, 1) := by decide +kernel
theorem dX12_lay_27 : decode cX12_lay 27 = .ok (.iushr, 1) := by decide +kernel
theorem dX12_lay_28 : decode cX12_lay 28 = .ok (.i2b, 1) := by decide +kernel
theorem dX12_lay_29 : decode cX12_lay 29 = .ok (.bastore, 1) := by decide +kernel
theorem dX12_lay_30 : decode cX12_lay 30 = .ok (.aload_n 0, 1) := by decide +kernel
theorem dX12_lay_31 : decode cX12_lay 31 = .ok (.dup, 1) := by decide +kernel
theorem dX12_lay_32 : decode cX12_lay 32 = .ok (.getfield 48, 3) := by decide +kernel
theorem dX12_lay_35 : decode cX12_lay 35 = .ok (.iconst 1, 1) := by decide +kernel
theorem dX12_lay_36 : decode cX12_lay 36 = .ok (.iadd, 1) := by decide +kernel
theorem dX12_lay_37 : decode cX12_lay 37 = .ok (.putfield 48, 3) := by decide +kernel
theorem dX12_lay_40 : decode cX12_lay 40 = .ok (.iinc 2 (-8), 3) := by decide +kernel
theorem dX12_lay_43 : decode cX12_lay 43 = .ok (.goto (-40), 3) := by decide +kernel
theorem dX12_lay_46 : decode cX12_lay 46 = .ok (.return_, 1) := by decide +kernel
theorem dX12_out_0 : decode cX12_out 0 = .ok (.aload_n 0, 1) := by decide +kernel
theorem dX12_out_1 : decode cX12_out 1 = .ok (.getfield 16, 3) := by decide +kernel
theorem dX12_out_4 : decode cX12_out 4 = .ok (.getfield 86, 3) := by decide +kernel
theorem dX12_out_7 : decode cX12_out 7 = .ok (.iload_n 1, 1) := by decide +kernel
theorem dX12_out_8 : decode cX12_out 8 = .ok (.invokevirtual 89, 3) := by decide +kernel
theorem dX12_out_11 : decode cX12_out 11 = .ok (.ireturn, 1) := by decide +kernel
theorem dX12_run_0 : decode cX12_run 0 = .ok (.new 39, 3) := by decide +kernel
theorem dX12_run_3 : decode cX12_run 3 = .ok (.dup, 1) := by decide +kernel
theorem dX12_run_4 : decode cX12_run 4 = .ok (.aload_n 0, 1) := by decide +kernel
theorem dX12_run_5 : decode cX12_run 5 = .ok (.getfield 9, 3) := by decide +kernel
theorem dX12_run_8 : decode cX12_run 8 = .ok (.iconst 0, 1) := by decide +kernel
theorem dX12_run_9 : decode cX12_run 9 = .ok (.aload_n 0, 1) := by decide +kernel
theorem dX12_run_10 : decode cX12_run 10 = .ok (.getfield 48, 3) := by decide +kernel
theorem dX12_run_13 : decode cX12_run 13 = .ok (.invokespecial 41, 3) := by decide +kernel
theorem dX12_run_16 : decode cX12_run 16 = .ok (.astore_n 1, 1) := by decide +kernel
theorem dX12_run_17 : decode cX12_run 17 = .ok (.new 59, 3) := by decide +kernel
theorem dX12_run_20 : decode cX12_run 20 = .ok (.dup, 1) := by decide +kernel
theorem dX12_run_21 : decode cX12_run 21 = .ok (.aload_n 0, 1) := by decide +kernel
theorem dX12_run_22 : decode cX12_run 22 = .ok (.getfield 44, 3) := by decide +kernel
theorem dX12_run_25 : decode cX12_run 25 = .ok (.invokespecial 61, 3) := by decide +kernel
theorem dX12_run_28 : decode cX12_run 28 = .ok (.astore_n 2, 1) := by decide +kernel
theorem dX12_run_29 : decode cX12_run 29 = .ok (.aload_n 0, 1) := by decide +kernel
theorem dX12_run_30 : decode cX12_run 30 = .ok (.iconst 0, 1) := by decide +kernel
theorem dX12_run_31 : decode cX12_run 31 = .ok (.putfield 48, 3) := by decide +kernel
theorem dX12_run_34 : decode cX12_run 34 = .ok (.aload_n 0, 1) := by decide +kernel
theorem dX12_run_35 : decode cX12_run 35 = .ok (.new 39, 3) := by decide +kernel
theorem dX12_run_38 : decode cX12_run 38 = .ok (.dup, 1) := by decide +kernel
theorem dX12_run_39 : decode cX12_run 39 = .ok (.aload_n 0, 1) := by decide +kernel
theorem dX12_run_40 : decode cX12_run 40 = .ok (.getfield 9, 3) := by decide +kernel
theorem dX12_run_43 : decode cX12_run 43 = .ok (.iconst 0, 1) := by decide +kernel
theorem dX12_run_44 : decode cX12_run 44 = .ok (.iconst 0, 1) := by decide +kernel
theorem dX12_run_45 : decode cX12_run 45 = .ok (.invokespecial 41, 3) := by decide +kernel
theorem dX12_run_48 : decode cX12_run 48 = .ok (.putfield 44, 3) := by decide +kernel
theorem dX12_run_51 : decode cX12_run 51 = .ok (.aload_n 0, 1) := by decide +kernel
theorem dX12_run_52 : decode cX12_run 52 = .ok (.getfield 33, 3) := by decide +kernel
theorem dX12_run_55 : decode cX12_run 55 = .ok (.aload_n 1, 1) := by decide +kernel
theorem dX12_run_56 : decode cX12_run 56 = .ok (.aload_n 2, 1) := by decide +kernel
theorem dX12_run_57 : decode cX12_run 57 = .ok (.invokevirtual 64, 3) := by decide +kernel
theorem dX12_run_60 : decode cX12_run 60 = .ok (.aload_n 0, 1) := by decide +kernel
theorem dX12_run_61 : decode cX12_run 61 = .ok (.getfield 33, 3) := by decide +kernel
theorem dX12_run_64 : decode cX12_run 64 = .ok (.iconst 0, 1) := by decide +kernel
theorem dX12_run_65 : decode cX12_run 65 = .ok (.invokevirtual 68, 3) := by decide +kernel
theorem dX12_run_68 : decode cX12_run 68 = .ok (.aload_n 0, 1) := by decide +kernel
theorem dX12_run_69 : decode cX12_run 69 = .ok (.getfield 16, 3) := by decide +kernel
theorem dX12_run_72 : decode cX12_run 72 = .ok (.getfield 71, 3) := by decide +kernel
theorem dX12_run_75 : decode cX12_run 75 = .ok (.iconst 2, 1) := by decide +kernel
theorem dX12_run_76 : decode cX12_run 76 = .ok (.if_icmp .ne 13, 3) := by decide +kernel
theorem dX12_run_89 : decode cX12_run 89 = .ok (.aload_n 0, 1) := by decide +kernel
theorem dX12_run_90 : decode cX12_run 90 = .ok (.getfield 33, 3) := by decide +kernel
theorem dX12_run_93 : decode cX12_run 93 = .ok (.getfield 77, 3) := by decide +kernel
theorem dX12_run_96 : decode cX12_run 96 = .ok (.getfield 81, 3) := by decide +kernel
theorem dX12_run_99 : decode cX12_run 99 = .ok (.ireturn, 1) := by decide +kernel
theorem dX12_size_0 : decode cX12_size 0 = .ok (.aload_n 0, 1) := by decide +kernel
theorem dX12_size_1 : decode cX12_size 1 = .ok (.getfield 16, 3) := by decide +kernel
theorem dX12_size_4 : decode cX12_size 4 = .ok (.getfield 86, 3) := by decide +kernel
theorem dX12_size_7 : decode cX12_size 7 = .ok (.getfield 56, 3) := by decide +kernel
theorem dX12_size_10 : decode cX12_size 10 = .ok (.ireturn, 1) := by decide +kernel
theorem dX12_wrong_0 : decode cX12_wrong 0 = .ok (.aload_n 0, 1) := by decide +kernel
theorem dX12_wrong_1 : decode cX12_wrong 1 = .ok (.getfield 33, 3) := by decide +kernel
theorem dX12_wrong_4 : decode cX12_wrong 4 = .ok (.getfield 100, 3) := by decide +kernel
theorem dX12_wrong_7 : decode cX12_wrong 7 = .ok (.ireturn, 1) := by decide +kernel
theorem dX13_addWork_0 : decode cX13_addWork 0 = .ok (.aload_n 0, 1) := by decide +kernel
theorem dX13_addWork_1 : decode cX13_addWork 1 = .ok (.getfield 227, 3) := by decide +kernel
theorem dX13_addWork_4 : decode cX13_addWork 4 = .ok (.iconst 5, 1) := by decide +kernel
theorem dX13_addWork_5 : decode cX13_addWork 5 = .ok (.if_icmp .ne 5, 3) := by decide +kernel
theorem dX13_addWork_10 : decode cX13_addWork 10 = .ok (.aload_n 0, 1) := by decide +kernel
theorem dX13_addWork_11 : decode cX13_addWork 11 = .ok (.getfield 486, 3) := by decide +kernel
theorem dX13_addWork_14 : decode cX13_addWork 14 = .ok (.iload_n 1, 1) := by decide +kernel
theorem dX13_addWork_15 : decode cX13_addWork 15 = .ok (.iadd, 1) := by decide +kernel
theorem dX13_addWork_16 : decode cX13_addWork 16 = .ok (.ldc_w 489, 3) := by decide +kernel
theorem dX13_addWork_19 : decode cX13_addWork 19 = .ok (.if_icmp .le 10, 3) := by decide +kernel
theorem dX13_addWork_29 : decode cX13_addWork 29 = .ok (.aload_n 0, 1) := by decide +kernel
theorem dX13_addWork_30 : decode cX13_addWork 30 = .ok (.dup, 1) := by decide +kernel
theorem dX13_addWork_31 : decode cX13_addWork 31 = .ok (.getfield 486, 3) := by decide +kernel
theorem dX13_addWork_34 : decode cX13_addWork 34 = .ok (.iload_n 1, 1) := by decide +kernel
theorem dX13_addWork_35 : decode cX13_addWork 35 = .ok (.iadd, 1) := by decide +kernel
theorem dX13_addWork_36 : decode cX13_addWork 36 = .ok (.putfield 486, 3) := by decide +kernel
theorem dX13_addWork_39 : decode cX13_addWork 39 = .ok (.iconst 1, 1) := by decide +kernel
theorem dX13_addWork_40 : decode cX13_addWork 40 = .ok (.ireturn, 1) := by decide +kernel
theorem dX13_back_0 : decode cX13_back 0 = .ok (.aload_n 0, 1) := by decide +kernel
theorem dX13_back_1 : decode cX13_back 1 = .ok (.aload_n 0, 1) := by decide +kernel
theorem dX13_back_2 : decode cX13_back 2 = .ok (.getfield 103, 3) := by decide +kernel
theorem dX13_back_5 : decode cX13_back 5 = .ok (.aload_n 0, 1) := by decide +kernel
theorem dX13_back_6 : decode cX13_back 6 = .ok (.getfield 262, 3) := by decide +kernel
theorem dX13_back_9 : decode cX13_back 9 = .ok (.iconst 5, 1) := by decide +kernel
theorem dX13_back_10 : decode cX13_back 10 = .ok (.isub, 1) := by decide +kernel
theorem dX13_back_11 : decode cX13_back 11 = .ok (.iaload, 1) := by decide +kernel
theorem dX13_back_12 : decode cX13_back 12 = .ok (.putfield 169, 3) := by decide +kernel
theorem dX13_back_15 : decode cX13_back 15 = .ok (.aload_n 0, 1) := by decide +kernel
theorem dX13_back_16 : decode cX13_back 16 = .ok (.aload_n 0, 1) := by decide +kernel
theorem dX13_back_17 : decode cX13_back 17 = .ok (.getfield 103, 3) := by decide +kernel
theorem dX13_back_20 : decode cX13_back 20 = .ok (.aload_n 0, 1) := by decide +kernel
theorem dX13_back_21 : decode cX13_back 21 = .ok (.getfield 262, 3) := by decide +kernel
theorem dX13_back_24 : decode cX13_back 24 = .ok (.iconst 4, 1) := by decide +kernel
theorem dX13_back_25 : decode cX13_back 25 = .ok (.isub, 1) := by decide +kernel
theorem dX13_back_26 : decode cX13_back 26 = .ok (.iaload, 1) := by decide +kernel
theorem dX13_back_27 : decode cX13_back 27 = .ok (.putfield 143, 3) := by decide +kernel
theorem dX13_back_30 : decode cX13_back 30 = .ok (.aload_n 0, 1) := by decide +kernel
theorem dX13_back_31 : decode cX13_back 31 = .ok (.aload_n 0, 1) := by decide +kernel
theorem dX13_back_32 : decode cX13_back 32 = .ok (.getfield 103, 3) := by decide +kernel
theorem dX13_back_35 : decode cX13_back 35 = .ok (.aload_n 0, 1) := by decide +kernel
theorem dX13_back_36 : decode cX13_back 36 = .ok (.getfield 262, 3) := by decide +kernel
theorem dX13_back_39 : decode cX13_back 39 = .ok (.iconst 3, 1) := by decide +kernel
theorem dX13_back_40 : decode cX13_back 40 = .ok (.isub, 1) := by decide +kernel
theorem dX13_back_41 : decode cX13_back 41 = .ok (.iaload, 1) := by decide +kernel
theorem dX13_back_42 : decode cX13_back 42 = .ok (.putfield 166, 3) := by decide +kernel
theorem dX13_back_45 : decode cX13_back 45 = .ok (.aload_n 0, 1) := by decide +kernel
theorem dX13_back_46 : decode cX13_back 46 = .ok (.aload_n 0, 1) := by decide +kernel
theorem dX13_back_47 : decode cX13_back 47 = .ok (.getfield 103, 3) := by decide +kernel
theorem dX13_back_50 : decode cX13_back 50 = .ok (.aload_n 0, 1) := by decide +kernel
theorem dX13_back_51 : decode cX13_back 51 = .ok (.getfield 262, 3) := by decide +kernel
theorem dX13_back_54 : decode cX13_back 54 = .ok (.iconst 2, 1) := by decide +kernel
theorem dX13_back_55 : decode cX13_back 55 = .ok (.isub, 1) := by decide +kernel
theorem dX13_back_56 : decode cX13_back 56 = .ok (.iaload, 1) := by decide +kernel
theorem dX13_back_57 : decode cX13_back 57 = .ok (.putfield 175, 3) := by decide +kernel
theorem dX13_back_60 : decode cX13_back 60 = .ok (.aload_n 0, 1) := by decide +kernel
theorem dX13_back_61 : decode cX13_back 61 = .ok (.aload_n 0, 1) := by decide +kernel
theorem dX13_back_62 : decode cX13_back 62 = .ok (.getfield 103, 3) := by decide +kernel
theorem dX13_back_65 : decode cX13_back 65 = .ok (.aload_n 0, 1) := by decide +kernel
theorem dX13_back_66 : decode cX13_back 66 = .ok (.getfield 262, 3) := by decide +kernel
theorem dX13_back_69 : decode cX13_back 69 = .ok (.iconst 1, 1) := by decide +kernel
theorem dX13_back_70 : decode cX13_back 70 = .ok (.isub, 1) := by decide +kernel
theorem dX13_back_71 : decode cX13_back 71 = .ok (.iaload, 1) := by decide +kernel
theorem dX13_back_72 : decode cX13_back 72 = .ok (.putfield 172, 3) := by decide +kernel
theorem dX13_back_75 : decode cX13_back 75 = .ok (.return_, 1) := by decide +kernel
theorem dX13_begun_0 : decode cX13_begun 0 = .ok (.aload_n 0, 1) := by decide +kernel
theorem dX13_begun_1 : decode cX13_begun 1 = .ok (.getfield 587, 3) := by decide +kernel
theorem dX13_begun_4 : decode cX13_begun 4 = .ok (.istore 4, 2) := by decide +kernel
theorem dX13_begun_6 : decode cX13_begun 6 = .ok (.iconst 0, 1) := by decide +kernel
theorem dX13_begun_7 : decode cX13_begun 7 = .ok (.istore 5, 2) := by decide +kernel
theorem dX13_begun_9 : decode cX13_begun 9 = .ok (.iload 5, 2) := by decide +kernel
theorem dX13_begun_11 : decode cX13_begun 11 = .ok (.iload_n 3, 1) := by decide +kernel
theorem dX13_begun_12 : decode cX13_begun 12 = .ok (.if_icmp .ge 25, 3) := by decide +kernel
theorem dX13_begun_37 : decode cX13_begun 37 = .ok (.iconst 0, 1) := by decide +kernel
theorem dX13_begun_38 : decode cX13_begun 38 = .ok (.istore 5, 2) := by decide +kernel
theorem dX13_begun_40 : decode cX13_begun 40 = .ok (.iload 5, 2) := by decide +kernel
theorem dX13_begun_42 : decode cX13_begun 42 = .ok (.iload_n 3, 1) := by decide +kernel
theorem dX13_begun_43 : decode cX13_begun 43 = .ok (.if_icmp .ge 20, 3) := by decide +kernel
theorem dX13_begun_63 : decode cX13_begun 63 = .ok (.aload_n 0, 1) := by decide +kernel
theorem dX13_begun_64 : decode cX13_begun 64 = .ok (.dup, 1) := by decide +kernel
theorem dX13_begun_65 : decode cX13_begun 65 = .ok (.getfield 587, 3) := by decide +kernel
theorem dX13_begun_68 : decode cX13_begun 68 = .ok (.iload_n 3, 1) := by decide +kernel
theorem dX13_begun_69 : decode cX13_begun 69 = .ok (.iadd, 1) := by decide +kernel
theorem dX13_begun_70 : decode cX13_begun 70 = .ok (.putfield 587, 3) := by decide +kernel
theorem dX13_begun_73 : decode cX13_begun 73 = .ok (.iload 4, 2) := by decide +kernel
theorem dX13_begun_75 : decode cX13_begun 75 = .ok (.ireturn, 1) := by decide +kernel
theorem dX13_byteAt_0 : decode cX13_byteAt 0 = .ok (.iload_n 1, 1) := by decide +kernel
theorem dX13_byteAt_1 : decode cX13_byteAt 1 = .ok (.aload_n 0, 1) := by decide +kernel
theorem dX13_byteAt_2 : decode cX13_byteAt 2 = .ok (.getfield 143, 3) := by decide +kernel
theorem dX13_byteAt_5 : decode cX13_byteAt 5 = .ok (.if_icmp .ge 12, 3) := by decide +kernel
theorem dX13_byteAt_17 : decode cX13_byteAt 17 = .ok (.iconst (-1), 1) := by decide +kernel
theorem dX13_byteAt_18 : decode cX13_byteAt 18 = .ok (.ireturn, 1) := by decide +kernel
theorem dX13_byteOf_0 : decode cX13_byteOf 0 = .ok (.aload_n 0, 1) := by decide +kernel
theorem dX13_byteOf_1 : decode cX13_byteOf 1 = .ok (.iload_n 1, 1) := by decide +kernel
theorem dX13_byteOf_2 : decode cX13_byteOf 2 = .ok (.invokevirtual 782, 3) := by decide +kernel
theorem dX13_byteOf_5 : decode cX13_byteOf 5 = .ok (.istore 4, 2) := by decide +kernel
theorem dX13_byteOf_7 : decode cX13_byteOf 7 = .ok (.iload 4, 2) := by decide +kernel
theorem dX13_byteOf_9 : decode cX13_byteOf 9 = .ok (.ifCond .lt 34, 3) := by decide +kernel
theorem dX13_byteOf_43 : decode cX13_byteOf 43 = .ok (.iconst (-1), 1) := by decide +kernel
theorem dX13_byteOf_44 : decode cX13_byteOf 44 = .ok (.ireturn, 1) := by decide +kernel
theorem dX13_count_0 : decode cX13_count 0 = .ok (.iload_n 1, 1) := by decide +kernel
theorem dX13_count_1 : decode cX13_count 1 = .ok (.tableswitch 93 0 5 #[39, 44, 49, 54, 83, 88], 39) := by decide +kernel
theorem dX13_count_40 : decode cX13_count 40 = .ok (.aload_n 0, 1) := by decide +kernel
theorem dX13_count_41 : decode cX13_count 41 = .ok (.getfield 486, 3) := by decide +kernel
theorem dX13_count_44 : decode cX13_count 44 = .ok (.ireturn, 1) := by decide +kernel
theorem dX13_count_45 : decode cX13_count 45 = .ok (.aload_n 0, 1) := by decide +kernel
theorem dX13_count_46 : decode cX13_count 46 = .ok (.getfield 469, 3) := by decide +kernel
theorem dX13_count_49 : decode cX13_count 49 = .ok (.ireturn, 1) := by decide +kernel
theorem dX13_count_50 : decode cX13_count 50 = .ok (.aload_n 0, 1) := by decide +kernel
theorem dX13_count_51 : decode cX13_count 51 = .ok (.getfield 505, 3) := by decide +kernel
theorem dX13_count_54 : decode cX13_count 54 = .ok (.ireturn, 1) := by decide +kernel
theorem dX13_count_55 : decode cX13_count 55 = .ok (.iconst 0, 1) := by decide +kernel
theorem dX13_count_56 : decode cX13_count 56 = .ok (.istore_n 2, 1) := by decide +kernel
theorem dX13_count_57 : decode cX13_count 57 = .ok (.iconst 0, 1) := by decide +kernel
theorem dX13_count_58 : decode cX13_count 58 = .ok (.istore_n 3, 1) := by decide +kernel
theorem dX13_count_59 : decode cX13_count 59 = .ok (.iload_n 3, 1) := by decide +kernel
theorem dX13_count_60 : decode cX13_count 60 = .ok (.aload_n 0, 1) := by decide +kernel
theorem dX13_count_61 : decode cX13_count 61 = .ok (.getfield 505, 3) := by decide +kernel
theorem dX13_count_64 : decode cX13_count 64 = .ok (.if_icmp .ge 18, 3) := by decide +kernel
theorem dX13_count_82 : decode cX13_count 82 = .ok (.iload_n 2, 1) := by decide +kernel
theorem dX13_count_83 : decode cX13_count 83 = .ok (.ireturn, 1) := by decide +kernel
theorem dX13_count_84 : decode cX13_count 84 = .ok (.aload_n 0, 1) := by decide +kernel
theorem dX13_count_85 : decode cX13_count 85 = .ok (.getfield 493, 3) := by decide +kernel
theorem dX13_count_88 : decode cX13_count 88 = .ok (.ireturn, 1) := by decide +kernel
theorem dX13_count_89 : decode cX13_count 89 = .ok (.aload_n 0, 1) := by decide +kernel
theorem dX13_count_90 : decode cX13_count 90 = .ok (.getfield 828, 3) := by decide +kernel
theorem dX13_count_93 : decode cX13_count 93 = .ok (.ireturn, 1) := by decide +kernel
theorem dX13_count_94 : decode cX13_count 94 = .ok (.iconst (-1), 1) := by decide +kernel
theorem dX13_count_95 : decode cX13_count 95 = .ok (.ireturn, 1) := by decide +kernel
theorem dX13_diagnostic_0 : decode cX13_diagnostic 0 = .ok (.iload_n 1, 1) := by decide +kernel
theorem dX13_diagnostic_1 : decode cX13_diagnostic 1 = .ok (.iconst 0, 1) := by decide +kernel
theorem dX13_diagnostic_2 : decode cX13_diagnostic 2 = .ok (.aload_n 0, 1) := by decide +kernel
theorem dX13_diagnostic_3 : decode cX13_diagnostic 3 = .ok (.getfield 493, 3) := by decide +kernel
theorem dX13_diagnostic_6 : decode cX13_diagnostic 6 = .ok (.iconst 1, 1) := by decide +kernel
theorem dX13_diagnostic_7 : decode cX13_diagnostic 7 = .ok (.isub, 1) := by decide +kernel
theorem dX13_diagnostic_8 : decode cX13_diagnostic 8 = .ok (.invokestatic 139, 3) := by decide +kernel
theorem dX13_diagnostic_11 : decode cX13_diagnostic 11 = .ok (.ifCond .eq 12, 3) := by decide +kernel
theorem dX13_diagnostic_23 : decode cX13_diagnostic 23 = .ok (.iconst (-1), 1) := by decide +kernel
theorem dX13_diagnostic_24 : decode cX13_diagnostic 24 = .ok (.ireturn, 1) := by decide +kernel
theorem dX13_end_0 : decode cX13_end 0 = .ok (.iload_n 1, 1) := by decide +kernel
theorem dX13_end_1 : decode cX13_end 1 = .ok (.iconst 0, 1) := by decide +kernel
theorem dX13_end_2 : decode cX13_end 2 = .ok (.aload_n 0, 1) := by decide +kernel
theorem dX13_end_3 : decode cX13_end 3 = .ok (.getfield 828, 3) := by decide +kernel
theorem dX13_end_6 : decode cX13_end 6 = .ok (.invokestatic 139, 3) := by decide +kernel
theorem dX13_end_9 : decode cX13_end 9 = .ok (.ifCond .ne 5, 3) := by decide +kernel
theorem dX13_end_12 : decode cX13_end 12 = .ok (.iconst (-1), 1) := by decide +kernel
theorem dX13_end_13 : decode cX13_end 13 = .ok (.ireturn, 1) := by decide +kernel
theorem dX13_end_14 : decode cX13_end 14 = .ok (.aload_n 0, 1) := by decide +kernel
theorem dX13_end_15 : decode cX13_end 15 = .ok (.iload_n 1, 1) := by decide +kernel
theorem dX13_end_16 : decode cX13_end 16 = .ok (.putfield 828, 3) := by decide +kernel
theorem dX13_end_19 : decode cX13_end 19 = .ok (.iload_n 1, 1) := by decide +kernel
theorem dX13_end_20 : decode cX13_end 20 = .ok (.ireturn, 1) := by decide +kernel
theorem dX13_feed_0 : decode cX13_feed 0 = .ok (.aload_n 0, 1) := by decide +kernel
theorem dX13_feed_1 : decode cX13_feed 1 = .ok (.getfield 828, 3) := by decide +kernel
theorem dX13_feed_4 : decode cX13_feed 4 = .ok (.bipush 20, 2) := by decide +kernel
theorem dX13_feed_6 : decode cX13_feed 6 = .ok (.iadd, 1) := by decide +kernel
theorem dX13_feed_7 : decode cX13_feed 7 = .ok (.sipush 2000, 3) := by decide +kernel
theorem dX13_feed_10 : decode cX13_feed 10 = .ok (.if_icmp .le 5, 3) := by decide +kernel
theorem dX13_feed_15 : decode cX13_feed 15 = .ok (.iconst 0, 1) := by decide +kernel
theorem dX13_feed_16 : decode cX13_feed 16 = .ok (.istore 6, 2) := by decide +kernel
theorem dX13_feed_18 : decode cX13_feed 18 = .ok (.iload 6, 2) := by decide +kernel
theorem dX13_feed_20 : decode cX13_feed 20 = .ok (.bipush 20, 2) := by decide +kernel
theorem dX13_feed_22 : decode cX13_feed 22 = .ok (.if_icmp .ge 93, 3) := by decide +kernel
theorem dX13_feed_25 : decode cX13_feed 25 = .ok (.iload 6, 2) := by decide +kernel
theorem dX13_feed_27 : decode cX13_feed 27 = .ok (.iconst 4, 1) := by decide +kernel
theorem dX13_feed_28 : decode cX13_feed 28 = .ok (.if_icmp .ge 7, 3) := by decide +kernel
theorem dX13_feed_31 : decode cX13_feed 31 = .ok (.iload_n 1, 1) := by decide +kernel
theorem dX13_feed_32 : decode cX13_feed 32 = .ok (.goto 39, 3) := by decide +kernel
theorem dX13_feed_35 : decode cX13_feed 35 = .ok (.iload 6, 2) := by decide +kernel
theorem dX13_feed_37 : decode cX13_feed 37 = .ok (.bipush 8, 2) := by decide +kernel
theorem dX13_feed_39 : decode cX13_feed 39 = .ok (.if_icmp .ge 7, 3) := by decide +kernel
theorem dX13_feed_42 : decode cX13_feed 42 = .ok (.iload_n 2, 1) := by decide +kernel
theorem dX13_feed_43 : decode cX13_feed 43 = .ok (.goto 28, 3) := by decide +kernel
theorem dX13_feed_46 : decode cX13_feed 46 = .ok (.iload 6, 2) := by decide +kernel
theorem dX13_feed_48 : decode cX13_feed 48 = .ok (.bipush 12, 2) := by decide +kernel
theorem dX13_feed_50 : decode cX13_feed 50 = .ok (.if_icmp .ge 7, 3) := by decide +kernel
theorem dX13_feed_53 : decode cX13_feed 53 = .ok (.iload_n 3, 1) := by decide +kernel
theorem dX13_feed_54 : decode cX13_feed 54 = .ok (.goto 17, 3) := by decide +kernel
theorem dX13_feed_57 : decode cX13_feed 57 = .ok (.iload 6, 2) := by decide +kernel
theorem dX13_feed_59 : decode cX13_feed 59 = .ok (.bipush 16, 2) := by decide +kernel
theorem dX13_feed_61 : decode cX13_feed 61 = .ok (.if_icmp .ge 8, 3) := by decide +kernel
theorem dX13_feed_64 : decode cX13_feed 64 = .ok (.iload 4, 2) := by decide +kernel
theorem dX13_feed_66 : decode cX13_feed 66 = .ok (.goto 5, 3) := by decide +kernel
theorem dX13_feed_69 : decode cX13_feed 69 = .ok (.iload 5, 2) := by decide +kernel
theorem dX13_feed_71 : decode cX13_feed 71 = .ok (.istore 7, 2) := by decide +kernel
theorem dX13_feed_73 : decode cX13_feed 73 = .ok (.aload_n 0, 1) := by decide +kernel
theorem dX13_feed_74 : decode cX13_feed 74 = .ok (.getfield 7, 3) := by decide +kernel
theorem dX13_feed_77 : decode cX13_feed 77 = .ok (.aload_n 0, 1) := by decide +kernel
theorem dX13_feed_78 : decode cX13_feed 78 = .ok (.getfield 828, 3) := by decide +kernel
theorem dX13_feed_81 : decode cX13_feed 81 = .ok (.iload 7, 2) := by decide +kernel
theorem dX13_feed_83 : decode cX13_feed 83 = .ok (.bipush 24, 2) := by decide +kernel
theorem dX13_feed_85 : decode cX13_feed 85 = .ok (.bipush 8, 2) := by decide +kernel
theorem dX13_feed_87 : decode cX13_feed 87 = .ok (.iload 6, 2) := by decide +kernel
theorem dX13_feed_89 : decode cX13_feed 89 = .ok (.iconst 4, 1) := by decide +kernel
theorem dX13_feed_90 : decode cX13_feed 90 = .ok (.irem, 1) := by decide +kernel
theorem dX13_feed_91 : decode cX13_feed 91 = .ok (.imul, 1) := by decide +kernel
theorem dX13_feed_92 : decode cX13_feed 92 = .ok (.isub, 1) := by decide +kernel
theorem dX13_feed_93 : decode cX13_feed 93 = .ok (.ishr, 1) := by decide +kernel
theorem dX13_feed_94 : decode cX13_feed 94 = .ok (.sipush 255, 3) := by decide +kernel
theorem dX13_feed_97 : decode cX13_feed 97 = .ok (.iand, 1) := by decide +kernel
theorem dX13_feed_98 : decode cX13_feed 98 = .ok (.iastore, 1) := by decide +kernel
theorem dX13_feed_99 : decode cX13_feed 99 = .ok (.aload_n 0, 1) := by decide +kernel
theorem dX13_feed_100 : decode cX13_feed 100 = .ok (.dup, 1) := by decide +kernel
theorem dX13_feed_101 : decode cX13_feed 101 = .ok (.getfield 828, 3) := by decide +kernel
theorem dX13_feed_104 : decode cX13_feed 104 = .ok (.iconst 1, 1) := by decide +kernel
theorem dX13_feed_105 : decode cX13_feed 105 = .ok (.iadd, 1) := by decide +kernel
theorem dX13_feed_106 : decode cX13_feed 106 = .ok (.putfield 828, 3) := by decide +kernel
theorem dX13_feed_109 : decode cX13_feed 109 = .ok (.iinc 6 1, 3) := by decide +kernel
theorem dX13_feed_112 : decode cX13_feed 112 = .ok (.goto (-94), 3) := by decide +kernel
theorem dX13_feed_115 : decode cX13_feed 115 = .ok (.aload_n 0, 1) := by decide +kernel
theorem dX13_feed_116 : decode cX13_feed 116 = .ok (.getfield 828, 3) := by decide +kernel
theorem dX13_feed_119 : decode cX13_feed 119 = .ok (.ireturn, 1) := by decide +kernel
theorem dX13_file_0 : decode cX13_file 0 = .ok (.aload_n 0, 1) := by decide +kernel
theorem dX13_file_1 : decode cX13_file 1 = .ok (.iload_n 1, 1) := by decide +kernel
theorem dX13_file_2 : decode cX13_file 2 = .ok (.invokevirtual 782, 3) := by decide +kernel
theorem dX13_file_5 : decode cX13_file 5 = .ok (.istore_n 2, 1) := by decide +kernel
theorem dX13_file_6 : decode cX13_file 6 = .ok (.iload_n 2, 1) := by decide +kernel
theorem dX13_file_7 : decode cX13_file 7 = .ok (.ifCond .ge 7, 3) := by decide +kernel
theorem dX13_file_10 : decode cX13_file 10 = .ok (.iconst (-1), 1) := by decide +kernel
theorem dX13_file_11 : decode cX13_file 11 = .ok (.goto 9, 3) := by decide +kernel
theorem dX13_file_20 : decode cX13_file 20 = .ok (.ireturn, 1) := by decide +kernel
theorem dX13_go_0 : decode cX13_go 0 = .ok (.aload_n 0, 1) := by decide +kernel
theorem dX13_go_1 : decode cX13_go 1 = .ok (.invokevirtual 206, 3) := by decide +kernel
theorem dX13_go_4 : decode cX13_go 4 = .ok (.aload_n 0, 1) := by decide +kernel
theorem dX13_go_5 : decode cX13_go 5 = .ok (.getfield 166, 3) := by decide +kernel
theorem dX13_go_8 : decode cX13_go 8 = .ok (.iconst 1, 1) := by decide +kernel
theorem dX13_go_9 : decode cX13_go 9 = .ok (.if_icmp .ne 65, 3) := by decide +kernel
theorem dX13_go_74 : decode cX13_go 74 = .ok (.aload_n 0, 1) := by decide +kernel
theorem dX13_go_75 : decode cX13_go 75 = .ok (.getfield 166, 3) := by decide +kernel
theorem dX13_go_78 : decode cX13_go 78 = .ok (.ifCond .ne 28, 3) := by decide +kernel
theorem dX13_go_81 : decode cX13_go 81 = .ok (.aload_n 0, 1) := by decide +kernel
theorem dX13_go_82 : decode cX13_go 82 = .ok (.getfield 209, 3) := by decide +kernel
theorem dX13_go_85 : decode cX13_go 85 = .ok (.ifCond .eq 21, 3) := by decide +kernel
theorem dX13_go_88 : decode cX13_go 88 = .ok (.aload_n 0, 1) := by decide +kernel
theorem dX13_go_89 : decode cX13_go 89 = .ok (.getfield 194, 3) := by decide +kernel
theorem dX13_go_92 : decode cX13_go 92 = .ok (.ifCond .le 14, 3) := by decide +kernel
theorem dX13_go_106 : decode cX13_go 106 = .ok (.return_, 1) := by decide +kernel
theorem dX13_init_0 : decode cX13_init 0 = .ok (.aload_n 0, 1) := by decide +kernel
theorem dX13_init_1 : decode cX13_init 1 = .ok (.invokespecial 1, 3) := by decide +kernel
theorem dX13_init_4 : decode cX13_init 4 = .ok (.aload_n 0, 1) := by decide +kernel
theorem dX13_init_5 : decode cX13_init 5 = .ok (.sipush 2000, 3) := by decide +kernel
theorem dX13_init_8 : decode cX13_init 8 = .ok (.newarray .int, 2) := by decide +kernel
theorem dX13_init_10 : decode cX13_init 10 = .ok (.putfield 7, 3) := by decide +kernel
theorem dX13_init_13 : decode cX13_init 13 = .ok (.aload_n 0, 1) := by decide +kernel
theorem dX13_init_14 : decode cX13_init 14 = .ok (.sipush 2000, 3) := by decide +kernel
theorem dX13_init_17 : decode cX13_init 17 = .ok (.newarray .int, 2) := by decide +kernel
theorem dX13_init_19 : decode cX13_init 19 = .ok (.putfield 13, 3) := by decide +kernel
theorem dX13_init_22 : decode cX13_init 22 = .ok (.aload_n 0, 1) := by decide +kernel
theorem dX13_init_23 : decode cX13_init 23 = .ok (.sipush 4000, 3) := by decide +kernel
theorem dX13_init_26 : decode cX13_init 26 = .ok (.newarray .int, 2) := by decide +kernel
theorem dX13_init_28 : decode cX13_init 28 = .ok (.putfield 16, 3) := by decide +kernel
theorem dX13_init_31 : decode cX13_init 31 = .ok (.aload_n 0, 1) := by decide +kernel
theorem dX13_init_32 : decode cX13_init 32 = .ok (.bipush 100, 2) := by decide +kernel
theorem dX13_init_34 : decode cX13_init 34 = .ok (.newarray .int, 2) := by decide +kernel
theorem dX13_init_36 : decode cX13_init 36 = .ok (.putfield 19, 3) := by decide +kernel
theorem dX13_init_39 : decode cX13_init 39 = .ok (.aload_n 0, 1) := by decide +kernel
theorem dX13_init_40 : decode cX13_init 40 = .ok (.iconst (-1), 1) := by decide +kernel
theorem dX13_init_41 : decode cX13_init 41 = .ok (.putfield 22, 3) := by decide +kernel
theorem dX13_init_44 : decode cX13_init 44 = .ok (.aload_n 0, 1) := by decide +kernel
theorem dX13_init_45 : decode cX13_init 45 = .ok (.ldc 26, 2) := by decide +kernel
theorem dX13_init_47 : decode cX13_init 47 = .ok (.newarray .int, 2) := by decide +kernel
theorem dX13_init_49 : decode cX13_init 49 = .ok (.putfield 27, 3) := by decide +kernel
theorem dX13_init_52 : decode cX13_init 52 = .ok (.aload_n 0, 1) := by decide +kernel
theorem dX13_init_53 : decode cX13_init 53 = .ok (.ldc 26, 2) := by decide +kernel
theorem dX13_init_55 : decode cX13_init 55 = .ok (.newarray .int, 2) := by decide +kernel
theorem dX13_init_57 : decode cX13_init 57 = .ok (.putfield 30, 3) := by decide +kernel
theorem dX13_init_60 : decode cX13_init 60 = .ok (.aload_n 0, 1) := by decide +kernel
theorem dX13_init_61 : decode cX13_init 61 = .ok (.ldc 26, 2) := by decide +kernel
theorem dX13_init_63 : decode cX13_init 63 = .ok (.newarray .int, 2) := by decide +kernel
theorem dX13_init_65 : decode cX13_init 65 = .ok (.putfield 33, 3) := by decide +kernel
theorem dX13_init_68 : decode cX13_init 68 = .ok (.aload_n 0, 1) := by decide +kernel
theorem dX13_init_69 : decode cX13_init 69 = .ok (.ldc 36, 2) := by decide +kernel
theorem dX13_init_71 : decode cX13_init 71 = .ok (.newarray .int, 2) := by decide +kernel
theorem dX13_init_73 : decode cX13_init 73 = .ok (.putfield 37, 3) := by decide +kernel
theorem dX13_init_76 : decode cX13_init 76 = .ok (.aload_n 0, 1) := by decide +kernel
theorem dX13_init_77 : decode cX13_init 77 = .ok (.ldc 36, 2) := by decide +kernel
theorem dX13_init_79 : decode cX13_init 79 = .ok (.newarray .int, 2) := by decide +kernel
theorem dX13_init_81 : decode cX13_init 81 = .ok (.putfield 40, 3) := by decide +kernel
theorem dX13_init_84 : decode cX13_init 84 = .ok (.aload_n 0, 1) := by decide +kernel
theorem dX13_init_85 : decode cX13_init 85 = .ok (.ldc 36, 2) := by decide +kernel
theorem dX13_init_87 : decode cX13_init 87 = .ok (.newarray .int, 2) := by decide +kernel
theorem dX13_init_89 : decode cX13_init 89 = .ok (.putfield 43, 3) := by decide +kernel
theorem dX13_init_92 : decode cX13_init 92 = .ok (.aload_n 0, 1) := by decide +kernel
theorem dX13_init_93 : decode cX13_init 93 = .ok (.ldc 46, 2) := by decide +kernel
theorem dX13_init_95 : decode cX13_init 95 = .ok (.newarray .int, 2) := by decide +kernel
theorem dX13_init_97 : decode cX13_init 97 = .ok (.putfield 47, 3) := by decide +kernel
theorem dX13_init_100 : decode cX13_init 100 = .ok (.aload_n 0, 1) := by decide +kernel
theorem dX13_init_101 : decode cX13_init 101 = .ok (.bipush 61, 2) := by decide +kernel
theorem dX13_init_103 : decode cX13_init 103 = .ok (.newarray .int, 2) := by decide +kernel
theorem dX13_init_105 : decode cX13_init 105 = .ok (.putfield 50, 3) := by decide +kernel
theorem dX13_init_108 : decode cX13_init 108 = .ok (.aload_n 0, 1) := by decide +kernel
theorem dX13_init_109 : decode cX13_init 109 = .ok (.bipush 61, 2) := by decide +kernel
theorem dX13_init_111 : decode cX13_init 111 = .ok (.newarray .int, 2) := by decide +kernel
theorem dX13_init_113 : decode cX13_init 113 = .ok (.putfield 53, 3) := by decide +kernel
theorem dX13_init_116 : decode cX13_init 116 = .ok (.aload_n 0, 1) := by decide +kernel
theorem dX13_init_117 : decode cX13_init 117 = .ok (.bipush 61, 2) := by decide +kernel
theorem dX13_init_119 : decode cX13_init 119 = .ok (.newarray .int, 2) := by decide +kernel
theorem dX13_init_121 : decode cX13_init 121 = .ok (.putfield 56, 3) := by decide +kernel
theorem dX13_init_124 : decode cX13_init 124 = .ok (.aload_n 0, 1) := by decide +kernel
theorem dX13_init_125 : decode cX13_init 125 = .ok (.bipush 61, 2) := by decide +kernel
theorem dX13_init_127 : decode cX13_init 127 = .ok (.newarray .int, 2) := by decide +kernel
theorem dX13_init_129 : decode cX13_init 129 = .ok (.putfield 59, 3) := by decide +kernel
theorem dX13_init_132 : decode cX13_init 132 = .ok (.aload_n 0, 1) := by decide +kernel
theorem dX13_init_133 : decode cX13_init 133 = .ok (.bipush 101, 2) := by decide +kernel
theorem dX13_init_135 : decode cX13_init 135 = .ok (.newarray .int, 2) := by decide +kernel
theorem dX13_init_137 : decode cX13_init 137 = .ok (.putfield 62, 3) := by decide +kernel
theorem dX13_init_140 : decode cX13_init 140 = .ok (.aload_n 0, 1) := by decide +kernel
theorem dX13_init_141 : decode cX13_init 141 = .ok (.bipush 101, 2) := by decide +kernel
theorem dX13_init_143 : decode cX13_init 143 = .ok (.newarray .int, 2) := by decide +kernel
theorem dX13_init_145 : decode cX13_init 145 = .ok (.putfield 65, 3) := by decide +kernel
theorem dX13_init_148 : decode cX13_init 148 = .ok (.aload_n 0, 1) := by decide +kernel
theorem dX13_init_149 : decode cX13_init 149 = .ok (.bipush 31, 2) := by decide +kernel
theorem dX13_init_151 : decode cX13_init 151 = .ok (.newarray .int, 2) := by decide +kernel
theorem dX13_init_153 : decode cX13_init 153 = .ok (.putfield 68, 3) := by decide +kernel
theorem dX13_init_156 : decode cX13_init 156 = .ok (.aload_n 0, 1) := by decide +kernel
theorem dX13_init_157 : decode cX13_init 157 = .ok (.bipush 31, 2) := by decide +kernel
theorem dX13_init_159 : decode cX13_init 159 = .ok (.newarray .int, 2) := by decide +kernel
theorem dX13_init_161 : decode cX13_init 161 = .ok (.putfield 71, 3) := by decide +kernel
theorem dX13_init_164 : decode cX13_init 164 = .ok (.aload_n 0, 1) := by decide +kernel
theorem dX13_init_165 : decode cX13_init 165 = .ok (.bipush 31, 2) := by decide +kernel
theorem dX13_init_167 : decode cX13_init 167 = .ok (.newarray .int, 2) := by decide +kernel
theorem dX13_init_169 : decode cX13_init 169 = .ok (.putfield 74, 3) := by decide +kernel
theorem dX13_init_172 : decode cX13_init 172 = .ok (.aload_n 0, 1) := by decide +kernel
theorem dX13_init_173 : decode cX13_init 173 = .ok (.bipush 31, 2) := by decide +kernel
theorem dX13_init_175 : decode cX13_init 175 = .ok (.newarray .int, 2) := by decide +kernel
theorem dX13_init_177 : decode cX13_init 177 = .ok (.putfield 77, 3) := by decide +kernel
theorem dX13_init_180 : decode cX13_init 180 = .ok (.aload_n 0, 1) := by decide +kernel
theorem dX13_init_181 : decode cX13_init 181 = .ok (.ldc 80, 2) := by decide +kernel
theorem dX13_init_183 : decode cX13_init 183 = .ok (.newarray .int, 2) := by decide +kernel
theorem dX13_init_185 : decode cX13_init 185 = .ok (.putfield 81, 3) := by decide +kernel
theorem dX13_init_188 : decode cX13_init 188 = .ok (.aload_n 0, 1) := by decide +kernel
theorem dX13_init_189 : decode cX13_init 189 = .ok (.ldc 84, 2) := by decide +kernel
theorem dX13_init_191 : decode cX13_init 191 = .ok (.newarray .int, 2) := by decide +kernel
theorem dX13_init_193 : decode cX13_init 193 = .ok (.putfield 85, 3) := by decide +kernel
theorem dX13_init_196 : decode cX13_init 196 = .ok (.aload_n 0, 1) := by decide +kernel
theorem dX13_init_197 : decode cX13_init 197 = .ok (.bipush 21, 2) := by decide +kernel
theorem dX13_init_199 : decode cX13_init 199 = .ok (.newarray .int, 2) := by decide +kernel
theorem dX13_init_201 : decode cX13_init 201 = .ok (.putfield 88, 3) := by decide +kernel
theorem dX13_init_204 : decode cX13_init 204 = .ok (.aload_n 0, 1) := by decide +kernel
theorem dX13_init_205 : decode cX13_init 205 = .ok (.ldc 84, 2) := by decide +kernel
theorem dX13_init_207 : decode cX13_init 207 = .ok (.newarray .int, 2) := by decide +kernel
theorem dX13_init_209 : decode cX13_init 209 = .ok (.putfield 91, 3) := by decide +kernel
theorem dX13_init_212 : decode cX13_init 212 = .ok (.aload_n 0, 1) := by decide +kernel
theorem dX13_init_213 : decode cX13_init 213 = .ok (.bipush 21, 2) := by decide +kernel
theorem dX13_init_215 : decode cX13_init 215 = .ok (.newarray .int, 2) := by decide +kernel
theorem dX13_init_217 : decode cX13_init 217 = .ok (.putfield 94, 3) := by decide +kernel
theorem dX13_init_220 : decode cX13_init 220 = .ok (.aload_n 0, 1) := by decide +kernel
theorem dX13_init_221 : decode cX13_init 221 = .ok (.iconst (-1), 1) := by decide +kernel
theorem dX13_init_222 : decode cX13_init 222 = .ok (.putfield 97, 3) := by decide +kernel
theorem dX13_init_225 : decode cX13_init 225 = .ok (.aload_n 0, 1) := by decide +kernel
theorem dX13_init_226 : decode cX13_init 226 = .ok (.ldc 26, 2) := by decide +kernel
theorem dX13_init_228 : decode cX13_init 228 = .ok (.newarray .int, 2) := by decide +kernel
theorem dX13_init_230 : decode cX13_init 230 = .ok (.putfield 100, 3) := by decide +kernel
theorem dX13_init_233 : decode cX13_init 233 = .ok (.aload_n 0, 1) := by decide +kernel
theorem dX13_init_234 : decode cX13_init 234 = .ok (.sipush 4000, 3) := by decide +kernel
theorem dX13_init_237 : decode cX13_init 237 = .ok (.newarray .int, 2) := by decide +kernel
theorem dX13_init_239 : decode cX13_init 239 = .ok (.putfield 103, 3) := by decide +kernel
theorem dX13_init_242 : decode cX13_init 242 = .ok (.aload_n 0, 1) := by decide +kernel
theorem dX13_init_243 : decode cX13_init 243 = .ok (.sipush 24000, 3) := by decide +kernel
theorem dX13_init_246 : decode cX13_init 246 = .ok (.newarray .int, 2) := by decide +kernel
theorem dX13_init_248 : decode cX13_init 248 = .ok (.putfield 106, 3) := by decide +kernel
theorem dX13_init_251 : decode cX13_init 251 = .ok (.aload_n 0, 1) := by decide +kernel
theorem dX13_init_252 : decode cX13_init 252 = .ok (.bipush 12, 2) := by decide +kernel
theorem dX13_init_254 : decode cX13_init 254 = .ok (.newarray .int, 2) := by decide +kernel
theorem dX13_init_256 : decode cX13_init 256 = .ok (.putfield 109, 3) := by decide +kernel
theorem dX13_init_259 : decode cX13_init 259 = .ok (.aload_n 0, 1) := by decide +kernel
theorem dX13_init_260 : decode cX13_init 260 = .ok (.sipush 12000, 3) := by decide +kernel
theorem dX13_init_263 : decode cX13_init 263 = .ok (.newarray .int, 2) := by decide +kernel
theorem dX13_init_265 : decode cX13_init 265 = .ok (.putfield 112, 3) := by decide +kernel
theorem dX13_init_268 : decode cX13_init 268 = .ok (.aload_n 0, 1) := by decide +kernel
theorem dX13_init_269 : decode cX13_init 269 = .ok (.sipush 12000, 3) := by decide +kernel
theorem dX13_init_272 : decode cX13_init 272 = .ok (.newarray .int, 2) := by decide +kernel
theorem dX13_init_274 : decode cX13_init 274 = .ok (.putfield 115, 3) := by decide +kernel
theorem dX13_init_277 : decode cX13_init 277 = .ok (.aload_n 0, 1) := by decide +kernel
theorem dX13_init_278 : decode cX13_init 278 = .ok (.sipush 12000, 3) := by decide +kernel
theorem dX13_init_281 : decode cX13_init 281 = .ok (.newarray .int, 2) := by decide +kernel
theorem dX13_init_283 : decode cX13_init 283 = .ok (.putfield 118, 3) := by decide +kernel
theorem dX13_init_286 : decode cX13_init 286 = .ok (.aload_n 0, 1) := by decide +kernel
theorem dX13_init_287 : decode cX13_init 287 = .ok (.bipush 61, 2) := by decide +kernel
theorem dX13_init_289 : decode cX13_init 289 = .ok (.newarray .boolean, 2) := by decide +kernel
theorem dX13_init_291 : decode cX13_init 291 = .ok (.putfield 121, 3) := by decide +kernel
theorem dX13_init_294 : decode cX13_init 294 = .ok (.aload_n 0, 1) := by decide +kernel
theorem dX13_init_295 : decode cX13_init 295 = .ok (.ldc 125, 2) := by decide +kernel
theorem dX13_init_297 : decode cX13_init 297 = .ok (.newarray .int, 2) := by decide +kernel
theorem dX13_init_299 : decode cX13_init 299 = .ok (.putfield 126, 3) := by decide +kernel
theorem dX13_init_302 : decode cX13_init 302 = .ok (.aload_n 0, 1) := by decide +kernel
theorem dX13_init_303 : decode cX13_init 303 = .ok (.sipush 12200, 3) := by decide +kernel
theorem dX13_init_306 : decode cX13_init 306 = .ok (.newarray .int, 2) := by decide +kernel
theorem dX13_init_308 : decode cX13_init 308 = .ok (.putfield 129, 3) := by decide +kernel
theorem dX13_init_311 : decode cX13_init 311 = .ok (.aload_n 0, 1) := by decide +kernel
theorem dX13_init_312 : decode cX13_init 312 = .ok (.sipush 12200, 3) := by decide +kernel
theorem dX13_init_315 : decode cX13_init 315 = .ok (.newarray .int, 2) := by decide +kernel
theorem dX13_init_317 : decode cX13_init 317 = .ok (.putfield 132, 3) := by decide +kernel
theorem dX13_init_320 : decode cX13_init 320 = .ok (.return_, 1) := by decide +kernel
theorem dX13_input_0 : decode cX13_input 0 = .ok (.aload_n 0, 1) := by decide +kernel
theorem dX13_input_1 : decode cX13_input 1 = .ok (.aload_n 0, 1) := by decide +kernel
theorem dX13_input_2 : decode cX13_input 2 = .ok (.getfield 828, 3) := by decide +kernel
theorem dX13_input_5 : decode cX13_input 5 = .ok (.putfield 831, 3) := by decide +kernel
theorem dX13_input_8 : decode cX13_input 8 = .ok (.aload_n 0, 1) := by decide +kernel
theorem dX13_input_9 : decode cX13_input 9 = .ok (.iconst 0, 1) := by decide +kernel
theorem dX13_input_10 : decode cX13_input 10 = .ok (.putfield 828, 3) := by decide +kernel
theorem dX13_input_13 : decode cX13_input 13 = .ok (.iconst 0, 1) := by decide +kernel
theorem dX13_input_14 : decode cX13_input 14 = .ok (.istore_n 1, 1) := by decide +kernel
theorem dX13_input_15 : decode cX13_input 15 = .ok (.iload_n 1, 1) := by decide +kernel
theorem dX13_input_16 : decode cX13_input 16 = .ok (.aload_n 0, 1) := by decide +kernel
theorem dX13_input_17 : decode cX13_input 17 = .ok (.getfield 831, 3) := by decide +kernel
theorem dX13_input_20 : decode cX13_input 20 = .ok (.if_icmp .ge 21, 3) := by decide +kernel
theorem dX13_input_41 : decode cX13_input 41 = .ok (.aload_n 0, 1) := by decide +kernel
theorem dX13_input_42 : decode cX13_input 42 = .ok (.getfield 831, 3) := by decide +kernel
theorem dX13_input_45 : decode cX13_input 45 = .ok (.ireturn, 1) := by decide +kernel
theorem dX13_isBlank_0 : decode cX13_isBlank 0 = .ok (.iload_n 0, 1) := by decide +kernel
theorem dX13_isBlank_1 : decode cX13_isBlank 1 = .ok (.bipush 9, 2) := by decide +kernel
theorem dX13_isBlank_3 : decode cX13_isBlank 3 = .ok (.if_icmp .eq 9, 3) := by decide +kernel
theorem dX13_isBlank_6 : decode cX13_isBlank 6 = .ok (.iload_n 0, 1) := by decide +kernel
theorem dX13_isBlank_7 : decode cX13_isBlank 7 = .ok (.bipush 32, 2) := by decide +kernel
theorem dX13_isBlank_9 : decode cX13_isBlank 9 = .ok (.if_icmp .ne 7, 3) := by decide +kernel
theorem dX13_isBlank_16 : decode cX13_isBlank 16 = .ok (.iconst 0, 1) := by decide +kernel
theorem dX13_isBlank_17 : decode cX13_isBlank 17 = .ok (.ireturn, 1) := by decide +kernel
theorem dX13_isIn_0 : decode cX13_isIn 0 = .ok (.iload_n 0, 1) := by decide +kernel
theorem dX13_isIn_1 : decode cX13_isIn 1 = .ok (.iload_n 1, 1) := by decide +kernel
theorem dX13_isIn_2 : decode cX13_isIn 2 = .ok (.if_icmp .lt 12, 3) := by decide +kernel
theorem dX13_isIn_5 : decode cX13_isIn 5 = .ok (.iload_n 0, 1) := by decide +kernel
theorem dX13_isIn_6 : decode cX13_isIn 6 = .ok (.iload_n 2, 1) := by decide +kernel
theorem dX13_isIn_7 : decode cX13_isIn 7 = .ok (.if_icmp .gt 7, 3) := by decide +kernel
theorem dX13_isIn_10 : decode cX13_isIn 10 = .ok (.iconst 1, 1) := by decide +kernel
theorem dX13_isIn_11 : decode cX13_isIn 11 = .ok (.goto 4, 3) := by decide +kernel
theorem dX13_isIn_14 : decode cX13_isIn 14 = .ok (.iconst 0, 1) := by decide +kernel
theorem dX13_isIn_15 : decode cX13_isIn 15 = .ok (.ireturn, 1) := by decide +kernel
theorem dX13_keep_0 : decode cX13_keep 0 = .ok (.aload_n 0, 1) := by decide +kernel
theorem dX13_keep_1 : decode cX13_keep 1 = .ok (.getfield 103, 3) := by decide +kernel
theorem dX13_keep_4 : decode cX13_keep 4 = .ok (.aload_n 0, 1) := by decide +kernel
theorem dX13_keep_5 : decode cX13_keep 5 = .ok (.getfield 262, 3) := by decide +kernel
theorem dX13_keep_8 : decode cX13_keep 8 = .ok (.aload_n 0, 1) := by decide +kernel
theorem dX13_keep_9 : decode cX13_keep 9 = .ok (.getfield 169, 3) := by decide +kernel
theorem dX13_keep_12 : decode cX13_keep 12 = .ok (.iastore, 1) := by decide +kernel
theorem dX13_keep_13 : decode cX13_keep 13 = .ok (.aload_n 0, 1) := by decide +kernel
theorem dX13_keep_14 : decode cX13_keep 14 = .ok (.getfield 103, 3) := by decide +kernel
theorem dX13_keep_17 : decode cX13_keep 17 = .ok (.aload_n 0, 1) := by decide +kernel
theorem dX13_keep_18 : decode cX13_keep 18 = .ok (.getfield 262, 3) := by decide +kernel
theorem dX13_keep_21 : decode cX13_keep 21 = .ok (.iconst 1, 1) := by decide +kernel
theorem dX13_keep_22 : decode cX13_keep 22 = .ok (.iadd, 1) := by decide +kernel
theorem dX13_keep_23 : decode cX13_keep 23 = .ok (.aload_n 0, 1) := by decide +kernel
theorem dX13_keep_24 : decode cX13_keep 24 = .ok (.getfield 143, 3) := by decide +kernel
theorem dX13_keep_27 : decode cX13_keep 27 = .ok (.iastore, 1) := by decide +kernel
theorem dX13_keep_28 : decode cX13_keep 28 = .ok (.aload_n 0, 1) := by decide +kernel
theorem dX13_keep_29 : decode cX13_keep 29 = .ok (.getfield 103, 3) := by decide +kernel
theorem dX13_keep_32 : decode cX13_keep 32 = .ok (.aload_n 0, 1) := by decide +kernel
theorem dX13_keep_33 : decode cX13_keep 33 = .ok (.getfield 262, 3) := by decide +kernel
theorem dX13_keep_36 : decode cX13_keep 36 = .ok (.iconst 2, 1) := by decide +kernel
theorem dX13_keep_37 : decode cX13_keep 37 = .ok (.iadd, 1) := by decide +kernel
theorem dX13_keep_38 : decode cX13_keep 38 = .ok (.aload_n 0, 1) := by decide +kernel
theorem dX13_keep_39 : decode cX13_keep 39 = .ok (.getfield 166, 3) := by decide +kernel
theorem dX13_keep_42 : decode cX13_keep 42 = .ok (.iastore, 1) := by decide +kernel
theorem dX13_keep_43 : decode cX13_keep 43 = .ok (.aload_n 0, 1) := by decide +kernel
theorem dX13_keep_44 : decode cX13_keep 44 = .ok (.getfield 103, 3) := by decide +kernel
theorem dX13_keep_47 : decode cX13_keep 47 = .ok (.aload_n 0, 1) := by decide +kernel
theorem dX13_keep_48 : decode cX13_keep 48 = .ok (.getfield 262, 3) := by decide +kernel
theorem dX13_keep_51 : decode cX13_keep 51 = .ok (.iconst 3, 1) := by decide +kernel
theorem dX13_keep_52 : decode cX13_keep 52 = .ok (.iadd, 1) := by decide +kernel
theorem dX13_keep_53 : decode cX13_keep 53 = .ok (.aload_n 0, 1) := by decide +kernel
theorem dX13_keep_54 : decode cX13_keep 54 = .ok (.getfield 175, 3) := by decide +kernel
theorem dX13_keep_57 : decode cX13_keep 57 = .ok (.iastore, 1) := by decide +kernel
theorem dX13_keep_58 : decode cX13_keep 58 = .ok (.aload_n 0, 1) := by decide +kernel
theorem dX13_keep_59 : decode cX13_keep 59 = .ok (.getfield 103, 3) := by decide +kernel
theorem dX13_keep_62 : decode cX13_keep 62 = .ok (.aload_n 0, 1) := by decide +kernel
theorem dX13_keep_63 : decode cX13_keep 63 = .ok (.getfield 262, 3) := by decide +kernel
theorem dX13_keep_66 : decode cX13_keep 66 = .ok (.iconst 4, 1) := by decide +kernel
theorem dX13_keep_67 : decode cX13_keep 67 = .ok (.iadd, 1) := by decide +kernel
theorem dX13_keep_68 : decode cX13_keep 68 = .ok (.aload_n 0, 1) := by decide +kernel
theorem dX13_keep_69 : decode cX13_keep 69 = .ok (.getfield 172, 3) := by decide +kernel
theorem dX13_keep_72 : decode cX13_keep 72 = .ok (.iastore, 1) := by decide +kernel
theorem dX13_keep_73 : decode cX13_keep 73 = .ok (.aload_n 0, 1) := by decide +kernel
theorem dX13_keep_74 : decode cX13_keep 74 = .ok (.dup, 1) := by decide +kernel
theorem dX13_keep_75 : decode cX13_keep 75 = .ok (.getfield 262, 3) := by decide +kernel
theorem dX13_keep_78 : decode cX13_keep 78 = .ok (.iconst 5, 1) := by decide +kernel
theorem dX13_keep_79 : decode cX13_keep 79 = .ok (.iadd, 1) := by decide +kernel
theorem dX13_keep_80 : decode cX13_keep 80 = .ok (.putfield 262, 3) := by decide +kernel
theorem dX13_keep_83 : decode cX13_keep 83 = .ok (.return_, 1) := by decide +kernel
theorem dX13_newInput_0 : decode cX13_newInput 0 = .ok (.aload_n 0, 1) := by decide +kernel
theorem dX13_newInput_1 : decode cX13_newInput 1 = .ok (.getfield 112, 3) := by decide +kernel
theorem dX13_newInput_4 : decode cX13_newInput 4 = .ok (.aload_n 0, 1) := by decide +kernel
theorem dX13_newInput_5 : decode cX13_newInput 5 = .ok (.getfield 286, 3) := by decide +kernel
theorem dX13_newInput_8 : decode cX13_newInput 8 = .ok (.iload_n 1, 1) := by decide +kernel
theorem dX13_newInput_9 : decode cX13_newInput 9 = .ok (.iastore, 1) := by decide +kernel
theorem dX13_newInput_10 : decode cX13_newInput 10 = .ok (.aload_n 0, 1) := by decide +kernel
theorem dX13_newInput_11 : decode cX13_newInput 11 = .ok (.getfield 115, 3) := by decide +kernel
theorem dX13_newInput_14 : decode cX13_newInput 14 = .ok (.aload_n 0, 1) := by decide +kernel
theorem dX13_newInput_15 : decode cX13_newInput 15 = .ok (.getfield 286, 3) := by decide +kernel
theorem dX13_newInput_18 : decode cX13_newInput 18 = .ok (.iload_n 2, 1) := by decide +kernel
theorem dX13_newInput_19 : decode cX13_newInput 19 = .ok (.iastore, 1) := by decide +kernel
theorem dX13_newInput_20 : decode cX13_newInput 20 = .ok (.aload_n 0, 1) := by decide +kernel
theorem dX13_newInput_21 : decode cX13_newInput 21 = .ok (.getfield 118, 3) := by decide +kernel
theorem dX13_newInput_24 : decode cX13_newInput 24 = .ok (.aload_n 0, 1) := by decide +kernel
theorem dX13_newInput_25 : decode cX13_newInput 25 = .ok (.getfield 286, 3) := by decide +kernel
theorem dX13_newInput_28 : decode cX13_newInput 28 = .ok (.iload_n 3, 1) := by decide +kernel
theorem dX13_newInput_29 : decode cX13_newInput 29 = .ok (.iastore, 1) := by decide +kernel
theorem dX13_newInput_30 : decode cX13_newInput 30 = .ok (.aload_n 0, 1) := by decide +kernel
theorem dX13_newInput_31 : decode cX13_newInput 31 = .ok (.dup, 1) := by decide +kernel
theorem dX13_newInput_32 : decode cX13_newInput 32 = .ok (.getfield 286, 3) := by decide +kernel
theorem dX13_newInput_35 : decode cX13_newInput 35 = .ok (.iconst 1, 1) := by decide +kernel
theorem dX13_newInput_36 : decode cX13_newInput 36 = .ok (.iadd, 1) := by decide +kernel
theorem dX13_newInput_37 : decode cX13_newInput 37 = .ok (.putfield 286, 3) := by decide +kernel
theorem dX13_newInput_40 : decode cX13_newInput 40 = .ok (.aload_n 0, 1) := by decide +kernel
theorem dX13_newInput_41 : decode cX13_newInput 41 = .ok (.getfield 286, 3) := by decide +kernel
theorem dX13_newInput_44 : decode cX13_newInput 44 = .ok (.iconst 1, 1) := by decide +kernel
theorem dX13_newInput_45 : decode cX13_newInput 45 = .ok (.isub, 1) := by decide +kernel
theorem dX13_newInput_46 : decode cX13_newInput 46 = .ok (.ireturn, 1) := by decide +kernel
theorem dX13_next_0 : decode cX13_next 0 = .ok (.aload_n 0, 1) := by decide +kernel
theorem dX13_next_1 : decode cX13_next 1 = .ok (.getfield 97, 3) := by decide +kernel
theorem dX13_next_4 : decode cX13_next 4 = .ok (.ifCond .lt 4, 3) := by decide +kernel
theorem dX13_next_8 : decode cX13_next 8 = .ok (.aload_n 0, 1) := by decide +kernel
theorem dX13_next_9 : decode cX13_next 9 = .ok (.invokevirtual 178, 3) := by decide +kernel
theorem dX13_next_12 : decode cX13_next 12 = .ok (.aload_n 0, 1) := by decide +kernel
theorem dX13_next_13 : decode cX13_next 13 = .ok (.aload_n 0, 1) := by decide +kernel
theorem dX13_next_14 : decode cX13_next 14 = .ok (.getfield 169, 3) := by decide +kernel
theorem dX13_next_17 : decode cX13_next 17 = .ok (.putfield 175, 3) := by decide +kernel
theorem dX13_next_20 : decode cX13_next 20 = .ok (.aload_n 0, 1) := by decide +kernel
theorem dX13_next_21 : decode cX13_next 21 = .ok (.aload_n 0, 1) := by decide +kernel
theorem dX13_next_22 : decode cX13_next 22 = .ok (.getfield 169, 3) := by decide +kernel
theorem dX13_next_25 : decode cX13_next 25 = .ok (.invokevirtual 146, 3) := by decide +kernel
theorem dX13_next_28 : decode cX13_next 28 = .ok (.istore_n 1, 1) := by decide +kernel
theorem dX13_next_29 : decode cX13_next 29 = .ok (.aload_n 0, 1) := by decide +kernel
theorem dX13_next_30 : decode cX13_next 30 = .ok (.aload_n 0, 1) := by decide +kernel
theorem dX13_next_31 : decode cX13_next 31 = .ok (.getfield 169, 3) := by decide +kernel
theorem dX13_next_34 : decode cX13_next 34 = .ok (.iconst 1, 1) := by decide +kernel
theorem dX13_next_35 : decode cX13_next 35 = .ok (.iadd, 1) := by decide +kernel
theorem dX13_next_36 : decode cX13_next 36 = .ok (.invokevirtual 146, 3) := by decide +kernel
theorem dX13_next_39 : decode cX13_next 39 = .ok (.istore_n 2, 1) := by decide +kernel
theorem dX13_next_40 : decode cX13_next 40 = .ok (.iload_n 1, 1) := by decide +kernel
theorem dX13_next_41 : decode cX13_next 41 = .ok (.ifCond .ge 11, 3) := by decide +kernel
theorem dX13_next_44 : decode cX13_next 44 = .ok (.aload_n 0, 1) := by decide +kernel
theorem dX13_next_45 : decode cX13_next 45 = .ok (.iconst 0, 1) := by decide +kernel
theorem dX13_next_46 : decode cX13_next 46 = .ok (.putfield 166, 3) := by decide +kernel
theorem dX13_next_49 : decode cX13_next 49 = .ok (.goto 87, 3) := by decide +kernel
theorem dX13_next_136 : decode cX13_next 136 = .ok (.aload_n 0, 1) := by decide +kernel
theorem dX13_next_137 : decode cX13_next 137 = .ok (.aload_n 0, 1) := by decide +kernel
theorem dX13_next_138 : decode cX13_next 138 = .ok (.getfield 169, 3) := by decide +kernel
theorem dX13_next_141 : decode cX13_next 141 = .ok (.putfield 172, 3) := by decide +kernel
theorem dX13_next_144 : decode cX13_next 144 = .ok (.return_, 1) := by decide +kernel
theorem dX13_out_0 : decode cX13_out 0 = .ok (.iload_n 1, 1) := by decide +kernel
theorem dX13_out_1 : decode cX13_out 1 = .ok (.iconst 0, 1) := by decide +kernel
theorem dX13_out_2 : decode cX13_out 2 = .ok (.aload_n 0, 1) := by decide +kernel
theorem dX13_out_3 : decode cX13_out 3 = .ok (.getfield 496, 3) := by decide +kernel
theorem dX13_out_6 : decode cX13_out 6 = .ok (.iconst 1, 1) := by decide +kernel
theorem dX13_out_7 : decode cX13_out 7 = .ok (.isub, 1) := by decide +kernel
theorem dX13_out_8 : decode cX13_out 8 = .ok (.invokestatic 139, 3) := by decide +kernel
theorem dX13_out_11 : decode cX13_out 11 = .ok (.ifCond .eq 12, 3) := by decide +kernel
theorem dX13_out_23 : decode cX13_out 23 = .ok (.iconst (-1), 1) := by decide +kernel
theorem dX13_out_24 : decode cX13_out 24 = .ok (.ireturn, 1) := by decide +kernel
theorem dX13_passBlanks_0 : decode cX13_passBlanks 0 = .ok (.iconst 1, 1) := by decide +kernel
theorem dX13_passBlanks_1 : decode cX13_passBlanks 1 = .ok (.istore_n 1, 1) := by decide +kernel
theorem dX13_passBlanks_2 : decode cX13_passBlanks 2 = .ok (.iload_n 1, 1) := by decide +kernel
theorem dX13_passBlanks_3 : decode cX13_passBlanks 3 = .ok (.ifCond .eq 79, 3) := by decide +kernel
theorem dX13_passBlanks_6 : decode cX13_passBlanks 6 = .ok (.aload_n 0, 1) := by decide +kernel
theorem dX13_passBlanks_7 : decode cX13_passBlanks 7 = .ok (.aload_n 0, 1) := by decide +kernel
theorem dX13_passBlanks_8 : decode cX13_passBlanks 8 = .ok (.getfield 169, 3) := by decide +kernel
theorem dX13_passBlanks_11 : decode cX13_passBlanks 11 = .ok (.invokevirtual 146, 3) := by decide +kernel
theorem dX13_passBlanks_14 : decode cX13_passBlanks 14 = .ok (.istore_n 2, 1) := by decide +kernel
theorem dX13_passBlanks_15 : decode cX13_passBlanks 15 = .ok (.aload_n 0, 1) := by decide +kernel
theorem dX13_passBlanks_16 : decode cX13_passBlanks 16 = .ok (.aload_n 0, 1) := by decide +kernel
theorem dX13_passBlanks_17 : decode cX13_passBlanks 17 = .ok (.getfield 169, 3) := by decide +kernel
theorem dX13_passBlanks_20 : decode cX13_passBlanks 20 = .ok (.iconst 1, 1) := by decide +kernel
theorem dX13_passBlanks_21 : decode cX13_passBlanks 21 = .ok (.iadd, 1) := by decide +kernel
theorem dX13_passBlanks_22 : decode cX13_passBlanks 22 = .ok (.invokevirtual 146, 3) := by decide +kernel
theorem dX13_passBlanks_25 : decode cX13_passBlanks 25 = .ok (.istore_n 3, 1) := by decide +kernel
theorem dX13_passBlanks_26 : decode cX13_passBlanks 26 = .ok (.iload_n 2, 1) := by decide +kernel
theorem dX13_passBlanks_27 : decode cX13_passBlanks 27 = .ok (.invokestatic 135, 3) := by decide +kernel
theorem dX13_passBlanks_30 : decode cX13_passBlanks 30 = .ok (.ifCond .ne 15, 3) := by decide +kernel
theorem dX13_passBlanks_33 : decode cX13_passBlanks 33 = .ok (.iload_n 2, 1) := by decide +kernel
theorem dX13_passBlanks_34 : decode cX13_passBlanks 34 = .ok (.bipush 92, 2) := by decide +kernel
theorem dX13_passBlanks_36 : decode cX13_passBlanks 36 = .ok (.if_icmp .ne 13, 3) := by decide +kernel
theorem dX13_passBlanks_49 : decode cX13_passBlanks 49 = .ok (.iconst 0, 1) := by decide +kernel
theorem dX13_passBlanks_50 : decode cX13_passBlanks 50 = .ok (.istore_n 1, 1) := by decide +kernel
theorem dX13_passBlanks_51 : decode cX13_passBlanks 51 = .ok (.aload_n 0, 1) := by decide +kernel
theorem dX13_passBlanks_52 : decode cX13_passBlanks 52 = .ok (.dup, 1) := by decide +kernel
theorem dX13_passBlanks_53 : decode cX13_passBlanks 53 = .ok (.getfield 169, 3) := by decide +kernel
theorem dX13_passBlanks_56 : decode cX13_passBlanks 56 = .ok (.iload_n 1, 1) := by decide +kernel
theorem dX13_passBlanks_57 : decode cX13_passBlanks 57 = .ok (.ifCond .ne 7, 3) := by decide +kernel
theorem dX13_passBlanks_60 : decode cX13_passBlanks 60 = .ok (.iconst 0, 1) := by decide +kernel
theorem dX13_passBlanks_61 : decode cX13_passBlanks 61 = .ok (.goto 14, 3) := by decide +kernel
theorem dX13_passBlanks_75 : decode cX13_passBlanks 75 = .ok (.iadd, 1) := by decide +kernel
theorem dX13_passBlanks_76 : decode cX13_passBlanks 76 = .ok (.putfield 169, 3) := by decide +kernel
theorem dX13_passBlanks_79 : decode cX13_passBlanks 79 = .ok (.goto (-77), 3) := by decide +kernel
theorem dX13_passBlanks_82 : decode cX13_passBlanks 82 = .ok (.aload_n 0, 1) := by decide +kernel
theorem dX13_passBlanks_83 : decode cX13_passBlanks 83 = .ok (.aload_n 0, 1) := by decide +kernel
theorem dX13_passBlanks_84 : decode cX13_passBlanks 84 = .ok (.getfield 169, 3) := by decide +kernel
theorem dX13_passBlanks_87 : decode cX13_passBlanks 87 = .ok (.invokevirtual 146, 3) := by decide +kernel
theorem dX13_passBlanks_90 : decode cX13_passBlanks 90 = .ok (.bipush 35, 2) := by decide +kernel
theorem dX13_passBlanks_92 : decode cX13_passBlanks 92 = .ok (.if_icmp .ne 41, 3) := by decide +kernel
theorem dX13_passBlanks_133 : decode cX13_passBlanks 133 = .ok (.return_, 1) := by decide +kernel
theorem dX13_ranked_0 : decode cX13_ranked 0 = .ok (.iconst 0, 1) := by decide +kernel
theorem dX13_ranked_1 : decode cX13_ranked 1 = .ok (.istore_n 2, 1) := by decide +kernel
theorem dX13_ranked_2 : decode cX13_ranked 2 = .ok (.iload_n 2, 1) := by decide +kernel
theorem dX13_ranked_3 : decode cX13_ranked 3 = .ok (.aload_n 0, 1) := by decide +kernel
theorem dX13_ranked_4 : decode cX13_ranked 4 = .ok (.getfield 505, 3) := by decide +kernel
theorem dX13_ranked_7 : decode cX13_ranked 7 = .ok (.if_icmp .ge 54, 3) := by decide +kernel
theorem dX13_ranked_61 : decode cX13_ranked 61 = .ok (.iconst (-1), 1) := by decide +kernel
theorem dX13_ranked_62 : decode cX13_ranked 62 = .ok (.ireturn, 1) := by decide +kernel
theorem dX13_run_0 : decode cX13_run 0 = .ok (.aload_n 0, 1) := by decide +kernel
theorem dX13_run_1 : decode cX13_run 1 = .ok (.getfield 828, 3) := by decide +kernel
theorem dX13_run_4 : decode cX13_run 4 = .ok (.istore_n 1, 1) := by decide +kernel
theorem dX13_run_5 : decode cX13_run 5 = .ok (.aload_n 0, 1) := by decide +kernel
theorem dX13_run_6 : decode cX13_run 6 = .ok (.iconst 0, 1) := by decide +kernel
theorem dX13_run_7 : decode cX13_run 7 = .ok (.putfield 828, 3) := by decide +kernel
theorem dX13_run_10 : decode cX13_run 10 = .ok (.aload_n 0, 1) := by decide +kernel
theorem dX13_run_11 : decode cX13_run 11 = .ok (.iconst 0, 1) := by decide +kernel
theorem dX13_run_12 : decode cX13_run 12 = .ok (.putfield 587, 3) := by decide +kernel
theorem dX13_run_15 : decode cX13_run 15 = .ok (.aload_n 0, 1) := by decide +kernel
theorem dX13_run_16 : decode cX13_run 16 = .ok (.iconst 0, 1) := by decide +kernel
theorem dX13_run_17 : decode cX13_run 17 = .ok (.putfield 298, 3) := by decide +kernel
theorem dX13_run_20 : decode cX13_run 20 = .ok (.aload_n 0, 1) := by decide +kernel
theorem dX13_run_21 : decode cX13_run 21 = .ok (.iconst 0, 1) := by decide +kernel
theorem dX13_run_22 : decode cX13_run 22 = .ok (.putfield 683, 3) := by decide +kernel
theorem dX13_run_25 : decode cX13_run 25 = .ok (.aload_n 0, 1) := by decide +kernel
theorem dX13_run_26 : decode cX13_run 26 = .ok (.iconst 0, 1) := by decide +kernel
theorem dX13_run_27 : decode cX13_run 27 = .ok (.putfield 385, 3) := by decide +kernel
theorem dX13_run_30 : decode cX13_run 30 = .ok (.aload_n 0, 1) := by decide +kernel
theorem dX13_run_31 : decode cX13_run 31 = .ok (.iconst 0, 1) := by decide +kernel
theorem dX13_run_32 : decode cX13_run 32 = .ok (.putfield 388, 3) := by decide +kernel
theorem dX13_run_35 : decode cX13_run 35 = .ok (.aload_n 0, 1) := by decide +kernel
theorem dX13_run_36 : decode cX13_run 36 = .ok (.iconst 0, 1) := by decide +kernel
theorem dX13_run_37 : decode cX13_run 37 = .ok (.putfield 420, 3) := by decide +kernel
theorem dX13_run_40 : decode cX13_run 40 = .ok (.aload_n 0, 1) := by decide +kernel
theorem dX13_run_41 : decode cX13_run 41 = .ok (.iconst 0, 1) := by decide +kernel
theorem dX13_run_42 : decode cX13_run 42 = .ok (.putfield 262, 3) := by decide +kernel
theorem dX13_run_45 : decode cX13_run 45 = .ok (.aload_n 0, 1) := by decide +kernel
theorem dX13_run_46 : decode cX13_run 46 = .ok (.iconst 0, 1) := by decide +kernel
theorem dX13_run_47 : decode cX13_run 47 = .ok (.putfield 286, 3) := by decide +kernel
theorem dX13_run_50 : decode cX13_run 50 = .ok (.aload_n 0, 1) := by decide +kernel
theorem dX13_run_51 : decode cX13_run 51 = .ok (.iconst 0, 1) := by decide +kernel
theorem dX13_run_52 : decode cX13_run 52 = .ok (.putfield 499, 3) := by decide +kernel
theorem dX13_run_55 : decode cX13_run 55 = .ok (.aload_n 0, 1) := by decide +kernel
theorem dX13_run_56 : decode cX13_run 56 = .ok (.iconst 0, 1) := by decide +kernel
theorem dX13_run_57 : decode cX13_run 57 = .ok (.putfield 529, 3) := by decide +kernel
theorem dX13_run_60 : decode cX13_run 60 = .ok (.aload_n 0, 1) := by decide +kernel
theorem dX13_run_61 : decode cX13_run 61 = .ok (.iconst 0, 1) := by decide +kernel
theorem dX13_run_62 : decode cX13_run 62 = .ok (.putfield 395, 3) := by decide +kernel
theorem dX13_run_65 : decode cX13_run 65 = .ok (.aload_n 0, 1) := by decide +kernel
theorem dX13_run_66 : decode cX13_run 66 = .ok (.iconst 0, 1) := by decide +kernel
theorem dX13_run_67 : decode cX13_run 67 = .ok (.putfield 551, 3) := by decide +kernel
theorem dX13_run_70 : decode cX13_run 70 = .ok (.aload_n 0, 1) := by decide +kernel
theorem dX13_run_71 : decode cX13_run 71 = .ok (.iconst 0, 1) := by decide +kernel
theorem dX13_run_72 : decode cX13_run 72 = .ok (.putfield 572, 3) := by decide +kernel
theorem dX13_run_75 : decode cX13_run 75 = .ok (.aload_n 0, 1) := by decide +kernel
theorem dX13_run_76 : decode cX13_run 76 = .ok (.iconst 0, 1) := by decide +kernel
theorem dX13_run_77 : decode cX13_run 77 = .ok (.putfield 575, 3) := by decide +kernel
theorem dX13_run_80 : decode cX13_run 80 = .ok (.aload_n 0, 1) := by decide +kernel
theorem dX13_run_81 : decode cX13_run 81 = .ok (.iconst 0, 1) := by decide +kernel
theorem dX13_run_82 : decode cX13_run 82 = .ok (.putfield 259, 3) := by decide +kernel
theorem dX13_run_85 : decode cX13_run 85 = .ok (.aload_n 0, 1) := by decide +kernel
theorem dX13_run_86 : decode cX13_run 86 = .ok (.iconst 0, 1) := by decide +kernel
theorem dX13_run_87 : decode cX13_run 87 = .ok (.putfield 496, 3) := by decide +kernel
theorem dX13_run_90 : decode cX13_run 90 = .ok (.aload_n 0, 1) := by decide +kernel
theorem dX13_run_91 : decode cX13_run 91 = .ok (.iconst 0, 1) := by decide +kernel
theorem dX13_run_92 : decode cX13_run 92 = .ok (.putfield 493, 3) := by decide +kernel
theorem dX13_run_95 : decode cX13_run 95 = .ok (.aload_n 0, 1) := by decide +kernel
theorem dX13_run_96 : decode cX13_run 96 = .ok (.iconst 0, 1) := by decide +kernel
theorem dX13_run_97 : decode cX13_run 97 = .ok (.putfield 469, 3) := by decide +kernel
theorem dX13_run_100 : decode cX13_run 100 = .ok (.aload_n 0, 1) := by decide +kernel
theorem dX13_run_101 : decode cX13_run 101 = .ok (.iconst 0, 1) := by decide +kernel
theorem dX13_run_102 : decode cX13_run 102 = .ok (.putfield 227, 3) := by decide +kernel
theorem dX13_run_105 : decode cX13_run 105 = .ok (.aload_n 0, 1) := by decide +kernel
theorem dX13_run_106 : decode cX13_run 106 = .ok (.iconst 0, 1) := by decide +kernel
theorem dX13_run_107 : decode cX13_run 107 = .ok (.putfield 483, 3) := by decide +kernel
theorem dX13_run_110 : decode cX13_run 110 = .ok (.aload_n 0, 1) := by decide +kernel
theorem dX13_run_111 : decode cX13_run 111 = .ok (.iconst 0, 1) := by decide +kernel
theorem dX13_run_112 : decode cX13_run 112 = .ok (.putfield 376, 3) := by decide +kernel
theorem dX13_run_115 : decode cX13_run 115 = .ok (.aload_n 0, 1) := by decide +kernel
theorem dX13_run_116 : decode cX13_run 116 = .ok (.iconst 0, 1) := by decide +kernel
theorem dX13_run_117 : decode cX13_run 117 = .ok (.putfield 584, 3) := by decide +kernel
theorem dX13_run_120 : decode cX13_run 120 = .ok (.aload_n 0, 1) := by decide +kernel
theorem dX13_run_121 : decode cX13_run 121 = .ok (.iconst 0, 1) := by decide +kernel
theorem dX13_run_122 : decode cX13_run 122 = .ok (.putfield 557, 3) := by decide +kernel
theorem dX13_run_125 : decode cX13_run 125 = .ok (.aload_n 0, 1) := by decide +kernel
theorem dX13_run_126 : decode cX13_run 126 = .ok (.iconst 0, 1) := by decide +kernel
theorem dX13_run_127 : decode cX13_run 127 = .ok (.putfield 311, 3) := by decide +kernel
theorem dX13_run_130 : decode cX13_run 130 = .ok (.aload_n 0, 1) := by decide +kernel
theorem dX13_run_131 : decode cX13_run 131 = .ok (.iconst (-1), 1) := by decide +kernel
theorem dX13_run_132 : decode cX13_run 132 = .ok (.putfield 97, 3) := by decide +kernel
theorem dX13_run_135 : decode cX13_run 135 = .ok (.aload_n 0, 1) := by decide +kernel
theorem dX13_run_136 : decode cX13_run 136 = .ok (.iconst (-1), 1) := by decide +kernel
theorem dX13_run_137 : decode cX13_run 137 = .ok (.putfield 22, 3) := by decide +kernel
theorem dX13_run_140 : decode cX13_run 140 = .ok (.aload_n 0, 1) := by decide +kernel
theorem dX13_run_141 : decode cX13_run 141 = .ok (.iconst (-1), 1) := by decide +kernel
theorem dX13_run_142 : decode cX13_run 142 = .ok (.putfield 289, 3) := by decide +kernel
theorem dX13_run_145 : decode cX13_run 145 = .ok (.iconst 0, 1) := by decide +kernel
theorem dX13_run_146 : decode cX13_run 146 = .ok (.istore_n 2, 1) := by decide +kernel
theorem dX13_run_147 : decode cX13_run 147 = .ok (.iload_n 2, 1) := by decide +kernel
theorem dX13_run_148 : decode cX13_run 148 = .ok (.aload_n 0, 1) := by decide +kernel
theorem dX13_run_149 : decode cX13_run 149 = .ok (.getfield 831, 3) := by decide +kernel
theorem dX13_run_152 : decode cX13_run 152 = .ok (.if_icmp .ge 19, 3) := by decide +kernel
theorem dX13_run_171 : decode cX13_run 171 = .ok (.aload_n 0, 1) := by decide +kernel
theorem dX13_run_172 : decode cX13_run 172 = .ok (.aload_n 0, 1) := by decide +kernel
theorem dX13_run_173 : decode cX13_run 173 = .ok (.iconst (-1), 1) := by decide +kernel
theorem dX13_run_174 : decode cX13_run 174 = .ok (.iconst 0, 1) := by decide +kernel
theorem dX13_run_175 : decode cX13_run 175 = .ok (.aload_n 0, 1) := by decide +kernel
theorem dX13_run_176 : decode cX13_run 176 = .ok (.getfield 831, 3) := by decide +kernel
theorem dX13_run_179 : decode cX13_run 179 = .ok (.invokevirtual 307, 3) := by decide +kernel
theorem dX13_run_182 : decode cX13_run 182 = .ok (.putfield 283, 3) := by decide +kernel
theorem dX13_run_185 : decode cX13_run 185 = .ok (.aload_n 0, 1) := by decide +kernel
theorem dX13_run_186 : decode cX13_run 186 = .ok (.iconst 0, 1) := by decide +kernel
theorem dX13_run_187 : decode cX13_run 187 = .ok (.putfield 831, 3) := by decide +kernel
theorem dX13_run_190 : decode cX13_run 190 = .ok (.aload_n 0, 1) := by decide +kernel
theorem dX13_run_191 : decode cX13_run 191 = .ok (.iconst 5, 1) := by decide +kernel
theorem dX13_run_192 : decode cX13_run 192 = .ok (.iload_n 1, 1) := by decide +kernel
theorem dX13_run_193 : decode cX13_run 193 = .ok (.iadd, 1) := by decide +kernel
theorem dX13_run_194 : decode cX13_run 194 = .ok (.invokevirtual 379, 3) := by decide +kernel
theorem dX13_run_197 : decode cX13_run 197 = .ok (.ifCond .eq 26, 3) := by decide +kernel
theorem dX13_run_200 : decode cX13_run 200 = .ok (.aload_n 0, 1) := by decide +kernel
theorem dX13_run_201 : decode cX13_run 201 = .ok (.aload_n 0, 1) := by decide +kernel
theorem dX13_run_202 : decode cX13_run 202 = .ok (.getfield 7, 3) := by decide +kernel
theorem dX13_run_205 : decode cX13_run 205 = .ok (.iconst 0, 1) := by decide +kernel
theorem dX13_run_206 : decode cX13_run 206 = .ok (.iload_n 1, 1) := by decide +kernel
theorem dX13_run_207 : decode cX13_run 207 = .ok (.invokevirtual 761, 3) := by decide +kernel
theorem dX13_run_210 : decode cX13_run 210 = .ok (.istore_n 2, 1) := by decide +kernel
theorem dX13_run_211 : decode cX13_run 211 = .ok (.aload_n 0, 1) := by decide +kernel
theorem dX13_run_212 : decode cX13_run 212 = .ok (.aload_n 0, 1) := by decide +kernel
theorem dX13_run_213 : decode cX13_run 213 = .ok (.iload_n 2, 1) := by decide +kernel
theorem dX13_run_214 : decode cX13_run 214 = .ok (.iload_n 2, 1) := by decide +kernel
theorem dX13_run_215 : decode cX13_run 215 = .ok (.iload_n 1, 1) := by decide +kernel
theorem dX13_run_216 : decode cX13_run 216 = .ok (.iadd, 1) := by decide +kernel
theorem dX13_run_217 : decode cX13_run 217 = .ok (.invokevirtual 672, 3) := by decide +kernel
theorem dX13_run_220 : decode cX13_run 220 = .ok (.putfield 22, 3) := by decide +kernel
theorem dX13_run_223 : decode cX13_run 223 = .ok (.aload_n 0, 1) := by decide +kernel
theorem dX13_run_224 : decode cX13_run 224 = .ok (.getfield 227, 3) := by decide +kernel
theorem dX13_run_227 : decode cX13_run 227 = .ok (.iconst 5, 1) := by decide +kernel
theorem dX13_run_228 : decode cX13_run 228 = .ok (.if_icmp .ne 10, 3) := by decide +kernel
theorem dX13_run_238 : decode cX13_run 238 = .ok (.aload_n 0, 1) := by decide +kernel
theorem dX13_run_239 : decode cX13_run 239 = .ok (.getfield 259, 3) := by decide +kernel
theorem dX13_run_242 : decode cX13_run 242 = .ok (.ireturn, 1) := by decide +kernel
theorem dX13_runScript_0 : decode cX13_runScript 0 = .ok (.aload_n 0, 1) := by decide +kernel
theorem dX13_runScript_1 : decode cX13_runScript 1 = .ok (.invokevirtual 268, 3) := by decide +kernel
theorem dX13_runScript_4 : decode cX13_runScript 4 = .ok (.aload_n 0, 1) := by decide +kernel
theorem dX13_runScript_5 : decode cX13_runScript 5 = .ok (.getfield 311, 3) := by decide +kernel
theorem dX13_runScript_8 : decode cX13_runScript 8 = .ok (.istore_n 3, 1) := by decide +kernel
theorem dX13_runScript_9 : decode cX13_runScript 9 = .ok (.aload_n 0, 1) := by decide +kernel
theorem dX13_runScript_10 : decode cX13_runScript 10 = .ok (.getfield 194, 3) := by decide +kernel
theorem dX13_runScript_13 : decode cX13_runScript 13 = .ok (.istore 4, 2) := by decide +kernel
theorem dX13_runScript_15 : decode cX13_runScript 15 = .ok (.iconst 1, 1) := by decide +kernel
theorem dX13_runScript_16 : decode cX13_runScript 16 = .ok (.istore 5, 2) := by decide +kernel
theorem dX13_runScript_18 : decode cX13_runScript 18 = .ok (.iconst (-1), 1) := by decide +kernel
theorem dX13_runScript_19 : decode cX13_runScript 19 = .ok (.istore 6, 2) := by decide +kernel
theorem dX13_runScript_21 : decode cX13_runScript 21 = .ok (.aload_n 0, 1) := by decide +kernel
theorem dX13_runScript_22 : decode cX13_runScript 22 = .ok (.iload_n 1, 1) := by decide +kernel
theorem dX13_runScript_23 : decode cX13_runScript 23 = .ok (.putfield 169, 3) := by decide +kernel
theorem dX13_runScript_26 : decode cX13_runScript 26 = .ok (.aload_n 0, 1) := by decide +kernel
theorem dX13_runScript_27 : decode cX13_runScript 27 = .ok (.iload_n 2, 1) := by decide +kernel
theorem dX13_runScript_28 : decode cX13_runScript 28 = .ok (.putfield 143, 3) := by decide +kernel
theorem dX13_runScript_31 : decode cX13_runScript 31 = .ok (.iconst 1, 1) := by decide +kernel
theorem dX13_runScript_32 : decode cX13_runScript 32 = .ok (.istore 7, 2) := by decide +kernel
theorem dX13_runScript_34 : decode cX13_runScript 34 = .ok (.iload 7, 2) := by decide +kernel
theorem dX13_runScript_36 : decode cX13_runScript 36 = .ok (.ifCond .eq 208, 3) := by decide +kernel
theorem dX13_runScript_39 : decode cX13_runScript 39 = .ok (.aload_n 0, 1) := by decide +kernel
theorem dX13_runScript_40 : decode cX13_runScript 40 = .ok (.getfield 227, 3) := by decide +kernel
theorem dX13_runScript_43 : decode cX13_runScript 43 = .ok (.ifCond .ne 201, 3) := by decide +kernel
theorem dX13_runScript_46 : decode cX13_runScript 46 = .ok (.aload_n 0, 1) := by decide +kernel
theorem dX13_runScript_47 : decode cX13_runScript 47 = .ok (.iconst 1, 1) := by decide +kernel
theorem dX13_runScript_48 : decode cX13_runScript 48 = .ok (.putfield 209, 3) := by decide +kernel
theorem dX13_runScript_51 : decode cX13_runScript 51 = .ok (.aload_n 0, 1) := by decide +kernel
theorem dX13_runScript_52 : decode cX13_runScript 52 = .ok (.iconst (-1), 1) := by decide +kernel
theorem dX13_runScript_53 : decode cX13_runScript 53 = .ok (.putfield 97, 3) := by decide +kernel
theorem dX13_runScript_56 : decode cX13_runScript 56 = .ok (.aload_n 0, 1) := by decide +kernel
theorem dX13_runScript_57 : decode cX13_runScript 57 = .ok (.iconst 0, 1) := by decide +kernel
theorem dX13_runScript_58 : decode cX13_runScript 58 = .ok (.putfield 311, 3) := by decide +kernel
theorem dX13_runScript_61 : decode cX13_runScript 61 = .ok (.aload_n 0, 1) := by decide +kernel
theorem dX13_runScript_62 : decode cX13_runScript 62 = .ok (.iconst 0, 1) := by decide +kernel
theorem dX13_runScript_63 : decode cX13_runScript 63 = .ok (.putfield 194, 3) := by decide +kernel
theorem dX13_runScript_66 : decode cX13_runScript 66 = .ok (.aload_n 0, 1) := by decide +kernel
theorem dX13_runScript_67 : decode cX13_runScript 67 = .ok (.getfield 169, 3) := by decide +kernel
theorem dX13_runScript_70 : decode cX13_runScript 70 = .ok (.istore 8, 2) := by decide +kernel
theorem dX13_runScript_72 : decode cX13_runScript 72 = .ok (.aload_n 0, 1) := by decide +kernel
theorem dX13_runScript_73 : decode cX13_runScript 73 = .ok (.invokevirtual 224, 3) := by decide +kernel
theorem dX13_runScript_76 : decode cX13_runScript 76 = .ok (.aload_n 0, 1) := by decide +kernel
theorem dX13_runScript_77 : decode cX13_runScript 77 = .ok (.getfield 166, 3) := by decide +kernel
theorem dX13_runScript_80 : decode cX13_runScript 80 = .ok (.iconst 1, 1) := by decide +kernel
theorem dX13_runScript_81 : decode cX13_runScript 81 = .ok (.if_icmp .ne 23, 3) := by decide +kernel
theorem dX13_runScript_104 : decode cX13_runScript 104 = .ok (.aload_n 0, 1) := by decide +kernel
theorem dX13_runScript_105 : decode cX13_runScript 105 = .ok (.getfield 166, 3) := by decide +kernel
theorem dX13_runScript_108 : decode cX13_runScript 108 = .ok (.ifCond .ne 10, 3) := by decide +kernel
theorem dX13_runScript_111 : decode cX13_runScript 111 = .ok (.aload_n 0, 1) := by decide +kernel
theorem dX13_runScript_112 : decode cX13_runScript 112 = .ok (.getfield 97, 3) := by decide +kernel
theorem dX13_runScript_115 : decode cX13_runScript 115 = .ok (.ifCond .lt 7, 3) := by decide +kernel
theorem dX13_runScript_122 : decode cX13_runScript 122 = .ok (.iconst 0, 1) := by decide +kernel
theorem dX13_runScript_123 : decode cX13_runScript 123 = .ok (.istore 7, 2) := by decide +kernel
theorem dX13_runScript_125 : decode cX13_runScript 125 = .ok (.iload 7, 2) := by decide +kernel
theorem dX13_runScript_127 : decode cX13_runScript 127 = .ok (.ifCond .eq 39, 3) := by decide +kernel
theorem dX13_runScript_166 : decode cX13_runScript 166 = .ok (.aload_n 0, 1) := by decide +kernel
theorem dX13_runScript_167 : decode cX13_runScript 167 = .ok (.getfield 169, 3) := by decide +kernel
theorem dX13_runScript_170 : decode cX13_runScript 170 = .ok (.istore 9, 2) := by decide +kernel
theorem dX13_runScript_172 : decode cX13_runScript 172 = .ok (.aload_n 0, 1) := by decide +kernel
theorem dX13_runScript_173 : decode cX13_runScript 173 = .ok (.iconst 0, 1) := by decide +kernel
theorem dX13_runScript_174 : decode cX13_runScript 174 = .ok (.putfield 209, 3) := by decide +kernel
theorem dX13_runScript_177 : decode cX13_runScript 177 = .ok (.aload_n 0, 1) := by decide +kernel
theorem dX13_runScript_178 : decode cX13_runScript 178 = .ok (.getfield 97, 3) := by decide +kernel
theorem dX13_runScript_181 : decode cX13_runScript 181 = .ok (.istore 6, 2) := by decide +kernel
theorem dX13_runScript_183 : decode cX13_runScript 183 = .ok (.aload_n 0, 1) := by decide +kernel
theorem dX13_runScript_184 : decode cX13_runScript 184 = .ok (.iconst (-1), 1) := by decide +kernel
theorem dX13_runScript_185 : decode cX13_runScript 185 = .ok (.putfield 97, 3) := by decide +kernel
theorem dX13_runScript_188 : decode cX13_runScript 188 = .ok (.iload 6, 2) := by decide +kernel
theorem dX13_runScript_190 : decode cX13_runScript 190 = .ok (.ifCond .lt 16, 3) := by decide +kernel
theorem dX13_runScript_206 : decode cX13_runScript 206 = .ok (.iload 7, 2) := by decide +kernel
theorem dX13_runScript_208 : decode cX13_runScript 208 = .ok (.ifCond .eq 33, 3) := by decide +kernel
theorem dX13_runScript_241 : decode cX13_runScript 241 = .ok (.goto (-207), 3) := by decide +kernel
theorem dX13_runScript_244 : decode cX13_runScript 244 = .ok (.iload 5, 2) := by decide +kernel
theorem dX13_runScript_246 : decode cX13_runScript 246 = .ok (.ifCond .eq 20, 3) := by decide +kernel
theorem dX13_runScript_249 : decode cX13_runScript 249 = .ok (.aload_n 0, 1) := by decide +kernel
theorem dX13_runScript_250 : decode cX13_runScript 250 = .ok (.getfield 227, 3) := by decide +kernel
theorem dX13_runScript_253 : decode cX13_runScript 253 = .ok (.ifCond .ne 13, 3) := by decide +kernel
theorem dX13_runScript_256 : decode cX13_runScript 256 = .ok (.iload 6, 2) := by decide +kernel
theorem dX13_runScript_258 : decode cX13_runScript 258 = .ok (.ifCond .ge 8, 3) := by decide +kernel
theorem dX13_runScript_261 : decode cX13_runScript 261 = .ok (.aload_n 0, 1) := by decide +kernel
theorem dX13_runScript_262 : decode cX13_runScript 262 = .ok (.iconst 0, 1) := by decide +kernel
theorem dX13_runScript_263 : decode cX13_runScript 263 = .ok (.putfield 259, 3) := by decide +kernel
theorem dX13_runScript_266 : decode cX13_runScript 266 = .ok (.aload_n 0, 1) := by decide +kernel
theorem dX13_runScript_267 : decode cX13_runScript 267 = .ok (.iload_n 3, 1) := by decide +kernel
theorem dX13_runScript_268 : decode cX13_runScript 268 = .ok (.putfield 311, 3) := by decide +kernel
theorem dX13_runScript_271 : decode cX13_runScript 271 = .ok (.aload_n 0, 1) := by decide +kernel
theorem dX13_runScript_272 : decode cX13_runScript 272 = .ok (.iload 4, 2) := by decide +kernel
theorem dX13_runScript_274 : decode cX13_runScript 274 = .ok (.putfield 194, 3) := by decide +kernel
theorem dX13_runScript_277 : decode cX13_runScript 277 = .ok (.aload_n 0, 1) := by decide +kernel
theorem dX13_runScript_278 : decode cX13_runScript 278 = .ok (.invokevirtual 274, 3) := by decide +kernel
theorem dX13_runScript_281 : decode cX13_runScript 281 = .ok (.aload_n 0, 1) := by decide +kernel
theorem dX13_runScript_282 : decode cX13_runScript 282 = .ok (.invokevirtual 277, 3) := by decide +kernel
theorem dX13_runScript_285 : decode cX13_runScript 285 = .ok (.iload 6, 2) := by decide +kernel
theorem dX13_runScript_287 : decode cX13_runScript 287 = .ok (.ireturn, 1) := by decide +kernel
theorem dX13_size_0 : decode cX13_size 0 = .ok (.aload_n 0, 1) := by decide +kernel
theorem dX13_size_1 : decode cX13_size 1 = .ok (.getfield 496, 3) := by decide +kernel
theorem dX13_size_4 : decode cX13_size 4 = .ok (.ireturn, 1) := by decide +kernel
theorem dX13_unkeep_0 : decode cX13_unkeep 0 = .ok (.aload_n 0, 1) := by decide +kernel
theorem dX13_unkeep_1 : decode cX13_unkeep 1 = .ok (.dup, 1) := by decide +kernel
theorem dX13_unkeep_2 : decode cX13_unkeep 2 = .ok (.getfield 262, 3) := by decide +kernel
theorem dX13_unkeep_5 : decode cX13_unkeep 5 = .ok (.iconst 5, 1) := by decide +kernel
theorem dX13_unkeep_6 : decode cX13_unkeep 6 = .ok (.isub, 1) := by decide +kernel
theorem dX13_unkeep_7 : decode cX13_unkeep 7 = .ok (.putfield 262, 3) := by decide +kernel
theorem dX13_unkeep_10 : decode cX13_unkeep 10 = .ok (.return_, 1) := by decide +kernel
theorem dX13_wrong_0 : decode cX13_wrong 0 = .ok (.aload_n 0, 1) := by decide +kernel
theorem dX13_wrong_1 : decode cX13_wrong 1 = .ok (.getfield 22, 3) := by decide +kernel
theorem dX13_wrong_4 : decode cX13_wrong 4 = .ok (.ireturn, 1) := by decide +kernel
theorem dX2_init_0 : decode cX2_init 0 = .ok (.aload_n 0, 1) := by decide +kernel
theorem dX2_init_1 : decode cX2_init 1 = .ok (.invokespecial 3, 3) := by decide +kernel
theorem dX2_init_4 : decode cX2_init 4 = .ok (.aload_n 0, 1) := by decide +kernel
theorem dX2_init_5 : decode cX2_init 5 = .ok (.aload_n 1, 1) := by decide +kernel
theorem dX2_init_6 : decode cX2_init 6 = .ok (.putfield 9, 3) := by decide +kernel
theorem dX2_init_9 : decode cX2_init 9 = .ok (.return_, 1) := by decide +kernel
theorem dX3_at_0 : decode cX3_at 0 = .ok (.iload_n 1, 1) := by decide +kernel
theorem dX3_at_1 : decode cX3_at 1 = .ok (.ifCond .lt 33, 3) := by decide +kernel
theorem dX3_at_4 : decode cX3_at 4 = .ok (.iload_n 1, 1) := by decide +kernel
theorem dX3_at_5 : decode cX3_at 5 = .ok (.aload_n 0, 1) := by decide +kernel
theorem dX3_at_6 : decode cX3_at 6 = .ok (.getfield 16, 3) := by decide +kernel
theorem dX3_at_9 : decode cX3_at 9 = .ok (.if_icmp .ge 25, 3) := by decide +kernel
theorem dX3_at_34 : decode cX3_at 34 = .ok (.iconst (-1), 1) := by decide +kernel
theorem dX3_at_35 : decode cX3_at 35 = .ok (.ireturn, 1) := by decide +kernel
theorem dX3_init_0 : decode cX3_init 0 = .ok (.aload_n 0, 1) := by decide +kernel
theorem dX3_init_1 : decode cX3_init 1 = .ok (.invokespecial 1, 3) := by decide +kernel
theorem dX3_init_4 : decode cX3_init 4 = .ok (.iconst 0, 1) := by decide +kernel
theorem dX3_init_5 : decode cX3_init 5 = .ok (.iload_n 2, 1) := by decide +kernel
theorem dX3_init_6 : decode cX3_init 6 = .ok (.aload_n 1, 1) := by decide +kernel
theorem dX3_init_7 : decode cX3_init 7 = .ok (.arraylength, 1) := by decide +kernel
theorem dX3_init_8 : decode cX3_init 8 = .ok (.invokestatic 7, 3) := by decide +kernel
theorem dX3_init_11 : decode cX3_init 11 = .ok (.invokestatic 13, 3) := by decide +kernel
theorem dX3_init_14 : decode cX3_init 14 = .ok (.istore 4, 2) := by decide +kernel
theorem dX3_init_16 : decode cX3_init 16 = .ok (.aload_n 0, 1) := by decide +kernel
theorem dX3_init_17 : decode cX3_init 17 = .ok (.iconst 0, 1) := by decide +kernel
theorem dX3_init_18 : decode cX3_init 18 = .ok (.iload_n 3, 1) := by decide +kernel
theorem dX3_init_19 : decode cX3_init 19 = .ok (.aload_n 1, 1) := by decide +kernel
theorem dX3_init_20 : decode cX3_init 20 = .ok (.arraylength, 1) := by decide +kernel
theorem dX3_init_21 : decode cX3_init 21 = .ok (.iload 4, 2) := by decide +kernel
theorem dX3_init_23 : decode cX3_init 23 = .ok (.isub, 1) := by decide +kernel
theorem dX3_init_24 : decode cX3_init 24 = .ok (.invokestatic 7, 3) := by decide +kernel
theorem dX3_init_27 : decode cX3_init 27 = .ok (.invokestatic 13, 3) := by decide +kernel
theorem dX3_init_30 : decode cX3_init 30 = .ok (.putfield 16, 3) := by decide +kernel
theorem dX3_init_33 : decode cX3_init 33 = .ok (.aload_n 0, 1) := by decide +kernel
theorem dX3_init_34 : decode cX3_init 34 = .ok (.aload_n 0, 1) := by decide +kernel
theorem dX3_init_35 : decode cX3_init 35 = .ok (.getfield 16, 3) := by decide +kernel
theorem dX3_init_38 : decode cX3_init 38 = .ok (.newarray .byte, 2) := by decide +kernel
theorem dX3_init_40 : decode cX3_init 40 = .ok (.putfield 22, 3) := by decide +kernel
theorem dX3_init_43 : decode cX3_init 43 = .ok (.aload_n 1, 1) := by decide +kernel
theorem dX3_init_44 : decode cX3_init 44 = .ok (.iload 4, 2) := by decide +kernel
theorem dX3_init_46 : decode cX3_init 46 = .ok (.aload_n 0, 1) := by decide +kernel
theorem dX3_init_47 : decode cX3_init 47 = .ok (.getfield 22, 3) := by decide +kernel
theorem dX3_init_50 : decode cX3_init 50 = .ok (.iconst 0, 1) := by decide +kernel
theorem dX3_init_51 : decode cX3_init 51 = .ok (.aload_n 0, 1) := by decide +kernel
theorem dX3_init_52 : decode cX3_init 52 = .ok (.getfield 16, 3) := by decide +kernel
theorem dX3_init_55 : decode cX3_init 55 = .ok (.invokestatic 26, 3) := by decide +kernel
theorem dX3_init_58 : decode cX3_init 58 = .ok (.aload_n 0, 1) := by decide +kernel
theorem dX3_init_59 : decode cX3_init 59 = .ok (.aload_n 0, 1) := by decide +kernel
theorem dX3_init_60 : decode cX3_init 60 = .ok (.getfield 16, 3) := by decide +kernel
theorem dX3_init_63 : decode cX3_init 63 = .ok (.putfield 32, 3) := by decide +kernel
theorem dX3_init_66 : decode cX3_init 66 = .ok (.aload_n 0, 1) := by decide +kernel
theorem dX3_init_67 : decode cX3_init 67 = .ok (.aconst_null, 1) := by decide +kernel
theorem dX3_init_68 : decode cX3_init 68 = .ok (.putfield 35, 3) := by decide +kernel
theorem dX3_init_71 : decode cX3_init 71 = .ok (.return_, 1) := by decide +kernel
theorem dX3_init__0 : decode cX3_init_ 0 = .ok (.aload_n 0, 1) := by decide +kernel
theorem dX3_init__1 : decode cX3_init_ 1 = .ok (.invokespecial 1, 3) := by decide +kernel
theorem dX3_init__4 : decode cX3_init_ 4 = .ok (.aload_n 0, 1) := by decide +kernel
theorem dX3_init__5 : decode cX3_init_ 5 = .ok (.bipush 16, 2) := by decide +kernel
theorem dX3_init__7 : decode cX3_init_ 7 = .ok (.newarray .byte, 2) := by decide +kernel
theorem dX3_init__9 : decode cX3_init_ 9 = .ok (.putfield 22, 3) := by decide +kernel
theorem dX3_init__12 : decode cX3_init_ 12 = .ok (.aload_n 0, 1) := by decide +kernel
theorem dX3_init__13 : decode cX3_init_ 13 = .ok (.iload_n 1, 1) := by decide +kernel
theorem dX3_init__14 : decode cX3_init_ 14 = .ok (.putfield 32, 3) := by decide +kernel
theorem dX3_init__17 : decode cX3_init_ 17 = .ok (.aload_n 0, 1) := by decide +kernel
theorem dX3_init__18 : decode cX3_init_ 18 = .ok (.aload_n 2, 1) := by decide +kernel
theorem dX3_init__19 : decode cX3_init_ 19 = .ok (.putfield 35, 3) := by decide +kernel
theorem dX3_init__22 : decode cX3_init_ 22 = .ok (.return_, 1) := by decide +kernel
theorem dX4_init_0 : decode cX4_init 0 = .ok (.aload_n 0, 1) := by decide +kernel
theorem dX4_init_1 : decode cX4_init 1 = .ok (.invokespecial 3, 3) := by decide +kernel
theorem dX4_init_4 : decode cX4_init 4 = .ok (.aload_n 0, 1) := by decide +kernel
theorem dX4_init_5 : decode cX4_init 5 = .ok (.sipush 2001, 3) := by decide +kernel
theorem dX4_init_8 : decode cX4_init 8 = .ok (.newarray .int, 2) := by decide +kernel
theorem dX4_init_10 : decode cX4_init 10 = .ok (.putfield 9, 3) := by decide +kernel
theorem dX4_init_13 : decode cX4_init 13 = .ok (.aload_n 0, 1) := by decide +kernel
theorem dX4_init_14 : decode cX4_init 14 = .ok (.sipush 2001, 3) := by decide +kernel
theorem dX4_init_17 : decode cX4_init 17 = .ok (.newarray .int, 2) := by decide +kernel
theorem dX4_init_19 : decode cX4_init 19 = .ok (.putfield 15, 3) := by decide +kernel
theorem dX4_init_22 : decode cX4_init 22 = .ok (.aload_n 0, 1) := by decide +kernel
theorem dX4_init_23 : decode cX4_init 23 = .ok (.iconst 0, 1) := by decide +kernel
theorem dX4_init_24 : decode cX4_init 24 = .ok (.newarray .byte, 2) := by decide +kernel
theorem dX4_init_26 : decode cX4_init 26 = .ok (.putfield 18, 3) := by decide +kernel
theorem dX4_init_29 : decode cX4_init 29 = .ok (.return_, 1) := by decide +kernel
theorem dX5_init_0 : decode cX5_init 0 = .ok (.aload_n 0, 1) := by decide +kernel
theorem dX5_init_1 : decode cX5_init 1 = .ok (.invokespecial 1, 3) := by decide +kernel
theorem dX5_init_4 : decode cX5_init 4 = .ok (.return_, 1) := by decide +kernel
theorem dX6_begin_0 : decode cX6_begin 0 = .ok (.aload_n 0, 1) := by decide +kernel
theorem dX6_begin_1 : decode cX6_begin 1 = .ok (.aload_n 1, 1) := by decide +kernel
theorem dX6_begin_2 : decode cX6_begin 2 = .ok (.putfield 13, 3) := by decide +kernel
theorem dX6_begin_5 : decode cX6_begin 5 = .ok (.aload_n 0, 1) := by decide +kernel
theorem dX6_begin_6 : decode cX6_begin 6 = .ok (.aload_n 1, 1) := by decide +kernel
theorem dX6_begin_7 : decode cX6_begin 7 = .ok (.getfield 17, 3) := by decide +kernel
theorem dX6_begin_10 : decode cX6_begin 10 = .ok (.putfield 23, 3) := by decide +kernel
theorem dX6_begin_13 : decode cX6_begin 13 = .ok (.aload_n 0, 1) := by decide +kernel
theorem dX6_begin_14 : decode cX6_begin 14 = .ok (.aload_n 1, 1) := by decide +kernel
theorem dX6_begin_15 : decode cX6_begin 15 = .ok (.getfield 26, 3) := by decide +kernel
theorem dX6_begin_18 : decode cX6_begin 18 = .ok (.putfield 30, 3) := by decide +kernel
theorem dX6_begin_21 : decode cX6_begin 21 = .ok (.aload_n 0, 1) := by decide +kernel
theorem dX6_begin_22 : decode cX6_begin 22 = .ok (.iconst 0, 1) := by decide +kernel
theorem dX6_begin_23 : decode cX6_begin 23 = .ok (.putfield 33, 3) := by decide +kernel
theorem dX6_begin_26 : decode cX6_begin 26 = .ok (.return_, 1) := by decide +kernel
theorem dX6_init_0 : decode cX6_init 0 = .ok (.aload_n 0, 1) := by decide +kernel
theorem dX6_init_1 : decode cX6_init 1 = .ok (.invokespecial 1, 3) := by decide +kernel
theorem dX6_init_4 : decode cX6_init 4 = .ok (.aload_n 0, 1) := by decide +kernel
theorem dX6_init_5 : decode cX6_init 5 = .ok (.aload_n 1, 1) := by decide +kernel
theorem dX6_init_6 : decode cX6_init 6 = .ok (.invokevirtual 7, 3) := by decide +kernel
theorem dX6_init_9 : decode cX6_init 9 = .ok (.return_, 1) := by decide +kernel
theorem dX7_begin_0 : decode cX7_begin 0 = .ok (.aload_n 0, 1) := by decide +kernel
theorem dX7_begin_1 : decode cX7_begin 1 = .ok (.getfield 38, 3) := by decide +kernel
theorem dX7_begin_4 : decode cX7_begin 4 = .ok (.invokevirtual 85, 3) := by decide +kernel
theorem dX7_begin_7 : decode cX7_begin 7 = .ok (.aload_n 0, 1) := by decide +kernel
theorem dX7_begin_8 : decode cX7_begin 8 = .ok (.getfield 42, 3) := by decide +kernel
theorem dX7_begin_11 : decode cX7_begin 11 = .ok (.invokevirtual 88, 3) := by decide +kernel
theorem dX7_begin_14 : decode cX7_begin 14 = .ok (.aload_n 0, 1) := by decide +kernel
theorem dX7_begin_15 : decode cX7_begin 15 = .ok (.aload_n 0, 1) := by decide +kernel
theorem dX7_begin_16 : decode cX7_begin 16 = .ok (.getfield 21, 3) := by decide +kernel
theorem dX7_begin_19 : decode cX7_begin 19 = .ok (.putfield 31, 3) := by decide +kernel
theorem dX7_begin_22 : decode cX7_begin 22 = .ok (.aload_n 0, 1) := by decide +kernel
theorem dX7_begin_23 : decode cX7_begin 23 = .ok (.getfield 31, 3) := by decide +kernel
theorem dX7_begin_26 : decode cX7_begin 26 = .ok (.aload_n 0, 1) := by decide +kernel
theorem dX7_begin_27 : decode cX7_begin 27 = .ok (.getfield 27, 3) := by decide +kernel
theorem dX7_begin_30 : decode cX7_begin 30 = .ok (.invokevirtual 91, 3) := by decide +kernel
theorem dX7_begin_33 : decode cX7_begin 33 = .ok (.aload_n 0, 1) := by decide +kernel
theorem dX7_begin_34 : decode cX7_begin 34 = .ok (.new 69, 3) := by decide +kernel
theorem dX7_begin_37 : decode cX7_begin 37 = .ok (.dup, 1) := by decide +kernel
theorem dX7_begin_38 : decode cX7_begin 38 = .ok (.aload_n 1, 1) := by decide +kernel
theorem dX7_begin_39 : decode cX7_begin 39 = .ok (.iconst 1, 1) := by decide +kernel
theorem dX7_begin_40 : decode cX7_begin 40 = .ok (.invokespecial 71, 3) := by decide +kernel
theorem dX7_begin_43 : decode cX7_begin 43 = .ok (.putfield 74, 3) := by decide +kernel
theorem dX7_begin_46 : decode cX7_begin 46 = .ok (.aload_n 0, 1) := by decide +kernel
theorem dX7_begin_47 : decode cX7_begin 47 = .ok (.iconst 0, 1) := by decide +kernel
theorem dX7_begin_48 : decode cX7_begin 48 = .ok (.putfield 95, 3) := by decide +kernel
theorem dX7_begin_51 : decode cX7_begin 51 = .ok (.aload_n 0, 1) := by decide +kernel
theorem dX7_begin_52 : decode cX7_begin 52 = .ok (.aload_n 2, 1) := by decide +kernel
theorem dX7_begin_53 : decode cX7_begin 53 = .ok (.putfield 65, 3) := by decide +kernel
theorem dX7_begin_56 : decode cX7_begin 56 = .ok (.aload_n 0, 1) := by decide +kernel
theorem dX7_begin_57 : decode cX7_begin 57 = .ok (.aload_n 0, 1) := by decide +kernel
theorem dX7_begin_58 : decode cX7_begin 58 = .ok (.getfield 38, 3) := by decide +kernel
theorem dX7_begin_61 : decode cX7_begin 61 = .ok (.getfield 50, 3) := by decide +kernel
theorem dX7_begin_64 : decode cX7_begin 64 = .ok (.putfield 56, 3) := by decide +kernel
theorem dX7_begin_67 : decode cX7_begin 67 = .ok (.aload_n 0, 1) := by decide +kernel
theorem dX7_begin_68 : decode cX7_begin 68 = .ok (.iconst 0, 1) := by decide +kernel
theorem dX7_begin_69 : decode cX7_begin 69 = .ok (.putfield 98, 3) := by decide +kernel
theorem dX7_begin_72 : decode cX7_begin 72 = .ok (.aload_n 0, 1) := by decide +kernel
theorem dX7_begin_73 : decode cX7_begin 73 = .ok (.iconst 0, 1) := by decide +kernel
theorem dX7_begin_74 : decode cX7_begin 74 = .ok (.putfield 101, 3) := by decide +kernel
theorem dX7_begin_77 : decode cX7_begin 77 = .ok (.aload_n 0, 1) := by decide +kernel
theorem dX7_begin_78 : decode cX7_begin 78 = .ok (.iconst (-1), 1) := by decide +kernel
theorem dX7_begin_79 : decode cX7_begin 79 = .ok (.putfield 34, 3) := by decide +kernel
theorem dX7_begin_82 : decode cX7_begin 82 = .ok (.aload_n 0, 1) := by decide +kernel
theorem dX7_begin_83 : decode cX7_begin 83 = .ok (.iconst 0, 1) := by decide +kernel
theorem dX7_begin_84 : decode cX7_begin 84 = .ok (.invokevirtual 104, 3) := by decide +kernel
theorem dX7_begin_87 : decode cX7_begin 87 = .ok (.pop, 1) := by decide +kernel
theorem dX7_begin_88 : decode cX7_begin 88 = .ok (.aload_n 0, 1) := by decide +kernel
theorem dX7_begin_89 : decode cX7_begin 89 = .ok (.getfield 38, 3) := by decide +kernel
theorem dX7_begin_92 : decode cX7_begin 92 = .ok (.iconst 5, 1) := by decide +kernel
theorem dX7_begin_93 : decode cX7_begin 93 = .ok (.aload_n 1, 1) := by decide +kernel
theorem dX7_begin_94 : decode cX7_begin 94 = .ok (.getfield 108, 3) := by decide +kernel
theorem dX7_begin_97 : decode cX7_begin 97 = .ok (.iadd, 1) := by decide +kernel
theorem dX7_begin_98 : decode cX7_begin 98 = .ok (.invokevirtual 111, 3) := by decide +kernel
theorem dX7_begin_101 : decode cX7_begin 101 = .ok (.pop, 1) := by decide +kernel
theorem dX7_begin_102 : decode cX7_begin 102 = .ok (.return_, 1) := by decide +kernel
theorem dX7_comeBack_0 : decode cX7_comeBack 0 = .ok (.aload_n 0, 1) := by decide +kernel
theorem dX7_comeBack_1 : decode cX7_comeBack 1 = .ok (.aload_n 1, 1) := by decide +kernel
theorem dX7_comeBack_2 : decode cX7_comeBack 2 = .ok (.getfield 128, 3) := by decide +kernel
theorem dX7_comeBack_5 : decode cX7_comeBack 5 = .ok (.putfield 65, 3) := by decide +kernel
theorem dX7_comeBack_8 : decode cX7_comeBack 8 = .ok (.aload_n 0, 1) := by decide +kernel
theorem dX7_comeBack_9 : decode cX7_comeBack 9 = .ok (.aload_n 1, 1) := by decide +kernel
theorem dX7_comeBack_10 : decode cX7_comeBack 10 = .ok (.getfield 129, 3) := by decide +kernel
theorem dX7_comeBack_13 : decode cX7_comeBack 13 = .ok (.putfield 56, 3) := by decide +kernel
theorem dX7_comeBack_16 : decode cX7_comeBack 16 = .ok (.aload_n 0, 1) := by decide +kernel
theorem dX7_comeBack_17 : decode cX7_comeBack 17 = .ok (.aload_n 1, 1) := by decide +kernel
theorem dX7_comeBack_18 : decode cX7_comeBack 18 = .ok (.getfield 130, 3) := by decide +kernel
theorem dX7_comeBack_21 : decode cX7_comeBack 21 = .ok (.putfield 98, 3) := by decide +kernel
theorem dX7_comeBack_24 : decode cX7_comeBack 24 = .ok (.return_, 1) := by decide +kernel
theorem dX7_execute_0 : decode cX7_execute 0 = .ok (.lconst 0, 1) := by decide +kernel
theorem dX7_execute_1 : decode cX7_execute 1 = .ok (.lstore_n 2, 1) := by decide +kernel
theorem dX7_execute_2 : decode cX7_execute 2 = .ok (.lload_n 2, 1) := by decide +kernel
theorem dX7_execute_3 : decode cX7_execute 3 = .ok (.ldc2_w 200, 3) := by decide +kernel
theorem dX7_execute_6 : decode cX7_execute 6 = .ok (.lcmp, 1) := by decide +kernel
theorem dX7_execute_7 : decode cX7_execute 7 = .ok (.ifCond .ge 81, 3) := by decide +kernel
theorem dX7_execute_10 : decode cX7_execute 10 = .ok (.aload_n 0, 1) := by decide +kernel
theorem dX7_execute_11 : decode cX7_execute 11 = .ok (.getfield 101, 3) := by decide +kernel
theorem dX7_execute_14 : decode cX7_execute 14 = .ok (.iload_n 1, 1) := by decide +kernel
theorem dX7_execute_15 : decode cX7_execute 15 = .ok (.if_icmp .le 73, 3) := by decide +kernel
theorem dX7_execute_18 : decode cX7_execute 18 = .ok (.aload_n 0, 1) := by decide +kernel
theorem dX7_execute_19 : decode cX7_execute 19 = .ok (.getfield 38, 3) := by decide +kernel
theorem dX7_execute_22 : decode cX7_execute 22 = .ok (.getfield 169, 3) := by decide +kernel
theorem dX7_execute_25 : decode cX7_execute 25 = .ok (.iconst 2, 1) := by decide +kernel
theorem dX7_execute_26 : decode cX7_execute 26 = .ok (.if_icmp .eq 62, 3) := by decide +kernel
theorem dX7_execute_29 : decode cX7_execute 29 = .ok (.aload_n 0, 1) := by decide +kernel
theorem dX7_execute_30 : decode cX7_execute 30 = .ok (.getfield 38, 3) := by decide +kernel
theorem dX7_execute_33 : decode cX7_execute 33 = .ok (.getfield 169, 3) := by decide +kernel
theorem dX7_execute_36 : decode cX7_execute 36 = .ok (.iconst 1, 1) := by decide +kernel
theorem dX7_execute_37 : decode cX7_execute 37 = .ok (.if_icmp .ne 10, 3) := by decide +kernel
theorem dX7_execute_47 : decode cX7_execute 47 = .ok (.aload_n 0, 1) := by decide +kernel
theorem dX7_execute_48 : decode cX7_execute 48 = .ok (.getfield 74, 3) := by decide +kernel
theorem dX7_execute_51 : decode cX7_execute 51 = .ok (.aload_n 0, 1) := by decide +kernel
theorem dX7_execute_52 : decode cX7_execute 52 = .ok (.getfield 95, 3) := by decide +kernel
theorem dX7_execute_55 : decode cX7_execute 55 = .ok (.invokevirtual 205, 3) := by decide +kernel
theorem dX7_execute_58 : decode cX7_execute 58 = .ok (.iconst 2, 1) := by decide +kernel
theorem dX7_execute_59 : decode cX7_execute 59 = .ok (.if_icmp .ne 10, 3) := by decide +kernel
theorem dX7_execute_69 : decode cX7_execute 69 = .ok (.aload_n 0, 1) := by decide +kernel
theorem dX7_execute_70 : decode cX7_execute 70 = .ok (.aload_n 0, 1) := by decide +kernel
theorem dX7_execute_71 : decode cX7_execute 71 = .ok (.getfield 74, 3) := by decide +kernel
theorem dX7_execute_74 : decode cX7_execute 74 = .ok (.aload_n 0, 1) := by decide +kernel
theorem dX7_execute_75 : decode cX7_execute 75 = .ok (.getfield 95, 3) := by decide +kernel
theorem dX7_execute_78 : decode cX7_execute 78 = .ok (.invokevirtual 212, 3) := by decide +kernel
theorem dX7_execute_81 : decode cX7_execute 81 = .ok (.lload_n 2, 1) := by decide +kernel
theorem dX7_execute_82 : decode cX7_execute 82 = .ok (.lconst 1, 1) := by decide +kernel
theorem dX7_execute_83 : decode cX7_execute 83 = .ok (.ladd, 1) := by decide +kernel
theorem dX7_execute_84 : decode cX7_execute 84 = .ok (.lstore_n 2, 1) := by decide +kernel
theorem dX7_execute_85 : decode cX7_execute 85 = .ok (.goto (-83), 3) := by decide +kernel
theorem dX7_execute_88 : decode cX7_execute 88 = .ok (.return_, 1) := by decide +kernel
theorem dX7_frameAt_0 : decode cX7_frameAt 0 = .ok (.aload_n 0, 1) := by decide +kernel
theorem dX7_frameAt_1 : decode cX7_frameAt 1 = .ok (.getfield 12, 3) := by decide +kernel
theorem dX7_frameAt_4 : decode cX7_frameAt 4 = .ok (.iconst 0, 1) := by decide +kernel
theorem dX7_frameAt_5 : decode cX7_frameAt 5 = .ok (.iload_n 1, 1) := by decide +kernel
theorem dX7_frameAt_6 : decode cX7_frameAt 6 = .ok (.aload_n 0, 1) := by decide +kernel
theorem dX7_frameAt_7 : decode cX7_frameAt 7 = .ok (.getfield 12, 3) := by decide +kernel
theorem dX7_frameAt_10 : decode cX7_frameAt 10 = .ok (.invokevirtual 115, 3) := by decide +kernel
theorem dX7_frameAt_13 : decode cX7_frameAt 13 = .ok (.iconst 1, 1) := by decide +kernel
theorem dX7_frameAt_14 : decode cX7_frameAt 14 = .ok (.isub, 1) := by decide +kernel
theorem dX7_frameAt_15 : decode cX7_frameAt 15 = .ok (.invokestatic 138, 3) := by decide +kernel
theorem dX7_frameAt_18 : decode cX7_frameAt 18 = .ok (.invokestatic 144, 3) := by decide +kernel
theorem dX7_frameAt_21 : decode cX7_frameAt 21 = .ok (.invokevirtual 119, 3) := by decide +kernel
theorem dX7_frameAt_24 : decode cX7_frameAt 24 = .ok (.checkcast 78, 3) := by decide +kernel
theorem dX7_frameAt_27 : decode cX7_frameAt 27 = .ok (.areturn, 1) := by decide +kernel
theorem dX7_init_0 : decode cX7_init 0 = .ok (.aload_n 0, 1) := by decide +kernel
theorem dX7_init_1 : decode cX7_init 1 = .ok (.invokespecial 3, 3) := by decide +kernel
theorem dX7_init_4 : decode cX7_init 4 = .ok (.aload_n 0, 1) := by decide +kernel
theorem dX7_init_5 : decode cX7_init 5 = .ok (.new 9, 3) := by decide +kernel
theorem dX7_init_8 : decode cX7_init 8 = .ok (.dup, 1) := by decide +kernel
theorem dX7_init_9 : decode cX7_init 9 = .ok (.invokespecial 11, 3) := by decide +kernel
theorem dX7_init_12 : decode cX7_init 12 = .ok (.putfield 12, 3) := by decide +kernel
theorem dX7_init_15 : decode cX7_init 15 = .ok (.aload_n 0, 1) := by decide +kernel
theorem dX7_init_16 : decode cX7_init 16 = .ok (.new 18, 3) := by decide +kernel
theorem dX7_init_19 : decode cX7_init 19 = .ok (.dup, 1) := by decide +kernel
theorem dX7_init_20 : decode cX7_init 20 = .ok (.invokespecial 20, 3) := by decide +kernel
theorem dX7_init_23 : decode cX7_init 23 = .ok (.putfield 21, 3) := by decide +kernel
theorem dX7_init_26 : decode cX7_init 26 = .ok (.aload_n 0, 1) := by decide +kernel
theorem dX7_init_27 : decode cX7_init 27 = .ok (.iconst 0, 1) := by decide +kernel
theorem dX7_init_28 : decode cX7_init 28 = .ok (.anewarray 25, 3) := by decide +kernel
theorem dX7_init_31 : decode cX7_init 31 = .ok (.putfield 27, 3) := by decide +kernel
theorem dX7_init_34 : decode cX7_init 34 = .ok (.aload_n 0, 1) := by decide +kernel
theorem dX7_init_35 : decode cX7_init 35 = .ok (.aload_n 0, 1) := by decide +kernel
theorem dX7_init_36 : decode cX7_init 36 = .ok (.getfield 21, 3) := by decide +kernel
theorem dX7_init_39 : decode cX7_init 39 = .ok (.putfield 31, 3) := by decide +kernel
theorem dX7_init_42 : decode cX7_init 42 = .ok (.aload_n 0, 1) := by decide +kernel
theorem dX7_init_43 : decode cX7_init 43 = .ok (.iconst (-1), 1) := by decide +kernel
theorem dX7_init_44 : decode cX7_init 44 = .ok (.putfield 34, 3) := by decide +kernel
theorem dX7_init_47 : decode cX7_init 47 = .ok (.aload_n 0, 1) := by decide +kernel
theorem dX7_init_48 : decode cX7_init 48 = .ok (.aload_n 1, 1) := by decide +kernel
theorem dX7_init_49 : decode cX7_init 49 = .ok (.putfield 38, 3) := by decide +kernel
theorem dX7_init_52 : decode cX7_init 52 = .ok (.aload_n 0, 1) := by decide +kernel
theorem dX7_init_53 : decode cX7_init 53 = .ok (.aload_n 2, 1) := by decide +kernel
theorem dX7_init_54 : decode cX7_init 54 = .ok (.putfield 42, 3) := by decide +kernel
theorem dX7_init_57 : decode cX7_init 57 = .ok (.aload_n 0, 1) := by decide +kernel
theorem dX7_init_58 : decode cX7_init 58 = .ok (.aload_n 3, 1) := by decide +kernel
theorem dX7_init_59 : decode cX7_init 59 = .ok (.putfield 46, 3) := by decide +kernel
theorem dX7_init_62 : decode cX7_init 62 = .ok (.aload_n 0, 1) := by decide +kernel
theorem dX7_init_63 : decode cX7_init 63 = .ok (.aload_n 1, 1) := by decide +kernel
theorem dX7_init_64 : decode cX7_init 64 = .ok (.getfield 50, 3) := by decide +kernel
theorem dX7_init_67 : decode cX7_init 67 = .ok (.putfield 56, 3) := by decide +kernel
theorem dX7_init_70 : decode cX7_init 70 = .ok (.aload_n 0, 1) := by decide +kernel
theorem dX7_init_71 : decode cX7_init 71 = .ok (.new 57, 3) := by decide +kernel
theorem dX7_init_74 : decode cX7_init 74 = .ok (.dup, 1) := by decide +kernel
theorem dX7_init_75 : decode cX7_init 75 = .ok (.aload_n 1, 1) := by decide +kernel
theorem dX7_init_76 : decode cX7_init 76 = .ok (.getfield 59, 3) := by decide +kernel
theorem dX7_init_79 : decode cX7_init 79 = .ok (.invokespecial 62, 3) := by decide +kernel
theorem dX7_init_82 : decode cX7_init 82 = .ok (.putfield 65, 3) := by decide +kernel
theorem dX7_init_85 : decode cX7_init 85 = .ok (.aload_n 0, 1) := by decide +kernel
theorem dX7_init_86 : decode cX7_init 86 = .ok (.new 69, 3) := by decide +kernel
theorem dX7_init_89 : decode cX7_init 89 = .ok (.dup, 1) := by decide +kernel
theorem dX7_init_90 : decode cX7_init 90 = .ok (.aload_n 1, 1) := by decide +kernel
theorem dX7_init_91 : decode cX7_init 91 = .ok (.getfield 59, 3) := by decide +kernel
theorem dX7_init_94 : decode cX7_init 94 = .ok (.iconst 0, 1) := by decide +kernel
theorem dX7_init_95 : decode cX7_init 95 = .ok (.invokespecial 71, 3) := by decide +kernel
theorem dX7_init_98 : decode cX7_init 98 = .ok (.putfield 74, 3) := by decide +kernel
theorem dX7_init_101 : decode cX7_init 101 = .ok (.aload_n 0, 1) := by decide +kernel
theorem dX7_init_102 : decode cX7_init 102 = .ok (.getfield 12, 3) := by decide +kernel
theorem dX7_init_105 : decode cX7_init 105 = .ok (.new 78, 3) := by decide +kernel
theorem dX7_init_108 : decode cX7_init 108 = .ok (.dup, 1) := by decide +kernel
theorem dX7_init_109 : decode cX7_init 109 = .ok (.invokespecial 80, 3) := by decide +kernel
theorem dX7_init_112 : decode cX7_init 112 = .ok (.invokevirtual 81, 3) := by decide +kernel
theorem dX7_init_115 : decode cX7_init 115 = .ok (.pop, 1) := by decide +kernel
theorem dX7_init_116 : decode cX7_init 116 = .ok (.return_, 1) := by decide +kernel
theorem dX7_pop_0 : decode cX7_pop 0 = .ok (.aload_n 0, 1) := by decide +kernel
theorem dX7_pop_1 : decode cX7_pop 1 = .ok (.aload_n 0, 1) := by decide +kernel
theorem dX7_pop_2 : decode cX7_pop 2 = .ok (.invokevirtual 150, 3) := by decide +kernel
theorem dX7_pop_5 : decode cX7_pop 5 = .ok (.invokevirtual 154, 3) := by decide +kernel
theorem dX7_pop_8 : decode cX7_pop 8 = .ok (.aload_n 0, 1) := by decide +kernel
theorem dX7_pop_9 : decode cX7_pop 9 = .ok (.iconst 0, 1) := by decide +kernel
theorem dX7_pop_10 : decode cX7_pop 10 = .ok (.aload_n 0, 1) := by decide +kernel
theorem dX7_pop_11 : decode cX7_pop 11 = .ok (.getfield 101, 3) := by decide +kernel
theorem dX7_pop_14 : decode cX7_pop 14 = .ok (.iconst 1, 1) := by decide +kernel
theorem dX7_pop_15 : decode cX7_pop 15 = .ok (.isub, 1) := by decide +kernel
theorem dX7_pop_16 : decode cX7_pop 16 = .ok (.invokestatic 144, 3) := by decide +kernel
theorem dX7_pop_19 : decode cX7_pop 19 = .ok (.putfield 101, 3) := by decide +kernel
theorem dX7_pop_22 : decode cX7_pop 22 = .ok (.return_, 1) := by decide +kernel
theorem dX7_proceed_0 : decode cX7_proceed 0 = .ok (.aload_n 0, 1) := by decide +kernel
theorem dX7_proceed_1 : decode cX7_proceed 1 = .ok (.getfield 74, 3) := by decide +kernel
theorem dX7_proceed_4 : decode cX7_proceed 4 = .ok (.getfield 184, 3) := by decide +kernel
theorem dX7_proceed_7 : decode cX7_proceed 7 = .ok (.istore_n 1, 1) := by decide +kernel
theorem dX7_proceed_8 : decode cX7_proceed 8 = .ok (.aload_n 0, 1) := by decide +kernel
theorem dX7_proceed_9 : decode cX7_proceed 9 = .ok (.getfield 74, 3) := by decide +kernel
theorem dX7_proceed_12 : decode cX7_proceed 12 = .ok (.invokevirtual 187, 3) := by decide +kernel
theorem dX7_proceed_15 : decode cX7_proceed 15 = .ok (.istore_n 2, 1) := by decide +kernel
theorem dX7_proceed_16 : decode cX7_proceed 16 = .ok (.iload_n 2, 1) := by decide +kernel
theorem dX7_proceed_17 : decode cX7_proceed 17 = .ok (.ifCond .lt 9, 3) := by decide +kernel
theorem dX7_proceed_26 : decode cX7_proceed 26 = .ok (.aload_n 0, 1) := by decide +kernel
theorem dX7_proceed_27 : decode cX7_proceed 27 = .ok (.getfield 74, 3) := by decide +kernel
theorem dX7_proceed_30 : decode cX7_proceed 30 = .ok (.getfield 190, 3) := by decide +kernel
theorem dX7_proceed_33 : decode cX7_proceed 33 = .ok (.ifCond .lt 32, 3) := by decide +kernel
theorem dX7_proceed_65 : decode cX7_proceed 65 = .ok (.iload_n 1, 1) := by decide +kernel
theorem dX7_proceed_66 : decode cX7_proceed 66 = .ok (.ifCond .ne 11, 3) := by decide +kernel
theorem dX7_proceed_69 : decode cX7_proceed 69 = .ok (.aload_n 0, 1) := by decide +kernel
theorem dX7_proceed_70 : decode cX7_proceed 70 = .ok (.getfield 31, 3) := by decide +kernel
theorem dX7_proceed_73 : decode cX7_proceed 73 = .ok (.iconst 0, 1) := by decide +kernel
theorem dX7_proceed_74 : decode cX7_proceed 74 = .ok (.putfield 172, 3) := by decide +kernel
theorem dX7_proceed_77 : decode cX7_proceed 77 = .ok (.aload_n 0, 1) := by decide +kernel
theorem dX7_proceed_78 : decode cX7_proceed 78 = .ok (.invokevirtual 150, 3) := by decide +kernel
theorem dX7_proceed_81 : decode cX7_proceed 81 = .ok (.astore_n 3, 1) := by decide +kernel
theorem dX7_proceed_82 : decode cX7_proceed 82 = .ok (.aload_n 3, 1) := by decide +kernel
theorem dX7_proceed_83 : decode cX7_proceed 83 = .ok (.getfield 123, 3) := by decide +kernel
theorem dX7_proceed_86 : decode cX7_proceed 86 = .ok (.iconst 4, 1) := by decide +kernel
theorem dX7_proceed_87 : decode cX7_proceed 87 = .ok (.if_icmp .ne 19, 3) := by decide +kernel
theorem dX7_proceed_106 : decode cX7_proceed 106 = .ok (.aload_n 0, 1) := by decide +kernel
theorem dX7_proceed_107 : decode cX7_proceed 107 = .ok (.invokevirtual 181, 3) := by decide +kernel
theorem dX7_proceed_110 : decode cX7_proceed 110 = .ok (.return_, 1) := by decide +kernel
theorem dX7_push_0 : decode cX7_push 0 = .ok (.aload_n 0, 1) := by decide +kernel
theorem dX7_push_1 : decode cX7_push 1 = .ok (.getfield 101, 3) := by decide +kernel
theorem dX7_push_4 : decode cX7_push 4 = .ok (.aload_n 0, 1) := by decide +kernel
theorem dX7_push_5 : decode cX7_push 5 = .ok (.getfield 12, 3) := by decide +kernel
theorem dX7_push_8 : decode cX7_push 8 = .ok (.invokevirtual 115, 3) := by decide +kernel
theorem dX7_push_11 : decode cX7_push 11 = .ok (.if_icmp .lt 29, 3) := by decide +kernel
theorem dX7_push_40 : decode cX7_push 40 = .ok (.aload_n 0, 1) := by decide +kernel
theorem dX7_push_41 : decode cX7_push 41 = .ok (.getfield 12, 3) := by decide +kernel
theorem dX7_push_44 : decode cX7_push 44 = .ok (.aload_n 0, 1) := by decide +kernel
theorem dX7_push_45 : decode cX7_push 45 = .ok (.getfield 101, 3) := by decide +kernel
theorem dX7_push_48 : decode cX7_push 48 = .ok (.invokevirtual 119, 3) := by decide +kernel
theorem dX7_push_51 : decode cX7_push 51 = .ok (.checkcast 78, 3) := by decide +kernel
theorem dX7_push_54 : decode cX7_push 54 = .ok (.astore_n 2, 1) := by decide +kernel
theorem dX7_push_55 : decode cX7_push 55 = .ok (.aload_n 0, 1) := by decide +kernel
theorem dX7_push_56 : decode cX7_push 56 = .ok (.dup, 1) := by decide +kernel
theorem dX7_push_57 : decode cX7_push 57 = .ok (.getfield 101, 3) := by decide +kernel
theorem dX7_push_60 : decode cX7_push 60 = .ok (.iconst 1, 1) := by decide +kernel
theorem dX7_push_61 : decode cX7_push 61 = .ok (.iadd, 1) := by decide +kernel
theorem dX7_push_62 : decode cX7_push 62 = .ok (.putfield 101, 3) := by decide +kernel
theorem dX7_push_65 : decode cX7_push 65 = .ok (.aload_n 2, 1) := by decide +kernel
theorem dX7_push_66 : decode cX7_push 66 = .ok (.iload_n 1, 1) := by decide +kernel
theorem dX7_push_67 : decode cX7_push 67 = .ok (.putfield 123, 3) := by decide +kernel
theorem dX7_push_70 : decode cX7_push 70 = .ok (.aload_n 2, 1) := by decide +kernel
theorem dX7_push_71 : decode cX7_push 71 = .ok (.aload_n 0, 1) := by decide +kernel
theorem dX7_push_72 : decode cX7_push 72 = .ok (.getfield 74, 3) := by decide +kernel
theorem dX7_push_75 : decode cX7_push 75 = .ok (.putfield 126, 3) := by decide +kernel
theorem dX7_push_78 : decode cX7_push 78 = .ok (.aload_n 2, 1) := by decide +kernel
theorem dX7_push_79 : decode cX7_push 79 = .ok (.aload_n 0, 1) := by decide +kernel
theorem dX7_push_80 : decode cX7_push 80 = .ok (.getfield 95, 3) := by decide +kernel
theorem dX7_push_83 : decode cX7_push 83 = .ok (.putfield 127, 3) := by decide +kernel
theorem dX7_push_86 : decode cX7_push 86 = .ok (.aload_n 2, 1) := by decide +kernel
theorem dX7_push_87 : decode cX7_push 87 = .ok (.aload_n 0, 1) := by decide +kernel
theorem dX7_push_88 : decode cX7_push 88 = .ok (.getfield 65, 3) := by decide +kernel
theorem dX7_push_91 : decode cX7_push 91 = .ok (.putfield 128, 3) := by decide +kernel
theorem dX7_push_94 : decode cX7_push 94 = .ok (.aload_n 2, 1) := by decide +kernel
theorem dX7_push_95 : decode cX7_push 95 = .ok (.aload_n 0, 1) := by decide +kernel
theorem dX7_push_96 : decode cX7_push 96 = .ok (.getfield 56, 3) := by decide +kernel
theorem dX7_push_99 : decode cX7_push 99 = .ok (.putfield 129, 3) := by decide +kernel
theorem dX7_push_102 : decode cX7_push 102 = .ok (.aload_n 2, 1) := by decide +kernel
theorem dX7_push_103 : decode cX7_push 103 = .ok (.aload_n 0, 1) := by decide +kernel
theorem dX7_push_104 : decode cX7_push 104 = .ok (.getfield 98, 3) := by decide +kernel
theorem dX7_push_107 : decode cX7_push 107 = .ok (.putfield 130, 3) := by decide +kernel
theorem dX7_push_110 : decode cX7_push 110 = .ok (.aload_n 2, 1) := by decide +kernel
theorem dX7_push_111 : decode cX7_push 111 = .ok (.iconst 0, 1) := by decide +kernel
theorem dX7_push_112 : decode cX7_push 112 = .ok (.putfield 131, 3) := by decide +kernel
theorem dX7_push_115 : decode cX7_push 115 = .ok (.aload_n 2, 1) := by decide +kernel
theorem dX7_push_116 : decode cX7_push 116 = .ok (.aconst_null, 1) := by decide +kernel
theorem dX7_push_117 : decode cX7_push 117 = .ok (.putfield 135, 3) := by decide +kernel
theorem dX7_push_120 : decode cX7_push 120 = .ok (.aload_n 2, 1) := by decide +kernel
theorem dX7_push_121 : decode cX7_push 121 = .ok (.areturn, 1) := by decide +kernel
theorem dX7_step_0 : decode cX7_step 0 = .ok (.aload_n 1, 1) := by decide +kernel
theorem dX7_step_1 : decode cX7_step 1 = .ok (.iload_n 2, 1) := by decide +kernel
theorem dX7_step_2 : decode cX7_step 2 = .ok (.invokevirtual 205, 3) := by decide +kernel
theorem dX7_step_5 : decode cX7_step 5 = .ok (.tableswitch 277 0 23 #[270, 111, 277, 121, 135, 165, 195, 227, 277, 277, 277, 277, 277, 277, 277, 277, 277, 277, 277, 277, 277, 245, 254, 263], 111) := by decide +kernel
theorem dX7_step_275 : decode cX7_step 275 = .ok (.aload_n 0, 1) := by decide +kernel
theorem dX7_step_276 : decode cX7_step 276 = .ok (.invokevirtual 252, 3) := by decide +kernel
theorem dX7_step_279 : decode cX7_step 279 = .ok (.goto 28, 3) := by decide +kernel
theorem dX7_step_307 : decode cX7_step 307 = .ok (.return_, 1) := by decide +kernel
theorem dX7_top_0 : decode cX7_top 0 = .ok (.aload_n 0, 1) := by decide +kernel
theorem dX7_top_1 : decode cX7_top 1 = .ok (.aload_n 0, 1) := by decide +kernel
theorem dX7_top_2 : decode cX7_top 2 = .ok (.getfield 101, 3) := by decide +kernel
theorem dX7_top_5 : decode cX7_top 5 = .ok (.iconst 1, 1) := by decide +kernel
theorem dX7_top_6 : decode cX7_top 6 = .ok (.isub, 1) := by decide +kernel
theorem dX7_top_7 : decode cX7_top 7 = .ok (.invokevirtual 147, 3) := by decide +kernel
theorem dX7_top_10 : decode cX7_top 10 = .ok (.areturn, 1) := by decide +kernel
theorem dX8_init_0 : decode cX8_init 0 = .ok (.aload_n 0, 1) := by decide +kernel
theorem dX8_init_1 : decode cX8_init 1 = .ok (.invokespecial 3, 3) := by decide +kernel
theorem dX8_init_4 : decode cX8_init 4 = .ok (.aload_n 0, 1) := by decide +kernel
theorem dX8_init_5 : decode cX8_init 5 = .ok (.iconst 0, 1) := by decide +kernel
theorem dX8_init_6 : decode cX8_init 6 = .ok (.newarray .byte, 2) := by decide +kernel
theorem dX8_init_8 : decode cX8_init 8 = .ok (.putfield 9, 3) := by decide +kernel
theorem dX8_init_11 : decode cX8_init 11 = .ok (.aload_n 0, 1) := by decide +kernel
theorem dX8_init_12 : decode cX8_init 12 = .ok (.iconst 0, 1) := by decide +kernel
theorem dX8_init_13 : decode cX8_init 13 = .ok (.newarray .byte, 2) := by decide +kernel
theorem dX8_init_15 : decode cX8_init 15 = .ok (.putfield 15, 3) := by decide +kernel
theorem dX8_init_18 : decode cX8_init 18 = .ok (.aload_n 0, 1) := by decide +kernel
theorem dX8_init_19 : decode cX8_init 19 = .ok (.sipush 2000, 3) := by decide +kernel
theorem dX8_init_22 : decode cX8_init 22 = .ok (.newarray .int, 2) := by decide +kernel
theorem dX8_init_24 : decode cX8_init 24 = .ok (.putfield 18, 3) := by decide +kernel
theorem dX8_init_27 : decode cX8_init 27 = .ok (.aload_n 0, 1) := by decide +kernel
theorem dX8_init_28 : decode cX8_init 28 = .ok (.sipush 2000, 3) := by decide +kernel
theorem dX8_init_31 : decode cX8_init 31 = .ok (.newarray .int, 2) := by decide +kernel
theorem dX8_init_33 : decode cX8_init 33 = .ok (.putfield 22, 3) := by decide +kernel
theorem dX8_init_36 : decode cX8_init 36 = .ok (.aload_n 0, 1) := by decide +kernel
theorem dX8_init_37 : decode cX8_init 37 = .ok (.sipush 2001, 3) := by decide +kernel
theorem dX8_init_40 : decode cX8_init 40 = .ok (.newarray .byte, 2) := by decide +kernel
theorem dX8_init_42 : decode cX8_init 42 = .ok (.putfield 25, 3) := by decide +kernel
theorem dX8_init_45 : decode cX8_init 45 = .ok (.aload_n 0, 1) := by decide +kernel
theorem dX8_init_46 : decode cX8_init 46 = .ok (.sipush 2668, 3) := by decide +kernel
theorem dX8_init_49 : decode cX8_init 49 = .ok (.newarray .long, 2) := by decide +kernel
theorem dX8_init_51 : decode cX8_init 51 = .ok (.putfield 28, 3) := by decide +kernel
theorem dX8_init_54 : decode cX8_init 54 = .ok (.return_, 1) := by decide +kernel
theorem dX9_advance_0 : decode cX9_advance 0 = .ok (.aload_n 0, 1) := by decide +kernel
theorem dX9_advance_1 : decode cX9_advance 1 = .ok (.invokevirtual 46, 3) := by decide +kernel
theorem dX9_advance_4 : decode cX9_advance 4 = .ok (.ifCond .eq 10, 3) := by decide +kernel
theorem dX9_advance_14 : decode cX9_advance 14 = .ok (.aload_n 0, 1) := by decide +kernel
theorem dX9_advance_15 : decode cX9_advance 15 = .ok (.invokevirtual 78, 3) := by decide +kernel
theorem dX9_advance_18 : decode cX9_advance 18 = .ok (.aload_n 0, 1) := by decide +kernel
theorem dX9_advance_19 : decode cX9_advance 19 = .ok (.aload_n 0, 1) := by decide +kernel
theorem dX9_advance_20 : decode cX9_advance 20 = .ok (.getfield 81, 3) := by decide +kernel
theorem dX9_advance_23 : decode cX9_advance 23 = .ok (.putfield 59, 3) := by decide +kernel
theorem dX9_advance_26 : decode cX9_advance 26 = .ok (.aload_n 0, 1) := by decide +kernel
theorem dX9_advance_27 : decode cX9_advance 27 = .ok (.aload_n 0, 1) := by decide +kernel
theorem dX9_advance_28 : decode cX9_advance 28 = .ok (.getfield 81, 3) := by decide +kernel
theorem dX9_advance_31 : decode cX9_advance 31 = .ok (.invokevirtual 84, 3) := by decide +kernel
theorem dX9_advance_34 : decode cX9_advance 34 = .ok (.istore_n 1, 1) := by decide +kernel
theorem dX9_advance_35 : decode cX9_advance 35 = .ok (.iload_n 1, 1) := by decide +kernel
theorem dX9_advance_36 : decode cX9_advance 36 = .ok (.ifCond .ge 23, 3) := by decide +kernel
theorem dX9_advance_39 : decode cX9_advance 39 = .ok (.aload_n 0, 1) := by decide +kernel
theorem dX9_advance_40 : decode cX9_advance 40 = .ok (.iconst 0, 1) := by decide +kernel
theorem dX9_advance_41 : decode cX9_advance 41 = .ok (.putfield 50, 3) := by decide +kernel
theorem dX9_advance_44 : decode cX9_advance 44 = .ok (.aload_n 0, 1) := by decide +kernel
theorem dX9_advance_45 : decode cX9_advance 45 = .ok (.aload_n 0, 1) := by decide +kernel
theorem dX9_advance_46 : decode cX9_advance 46 = .ok (.getfield 81, 3) := by decide +kernel
theorem dX9_advance_49 : decode cX9_advance 49 = .ok (.putfield 88, 3) := by decide +kernel
theorem dX9_advance_52 : decode cX9_advance 52 = .ok (.aload_n 0, 1) := by decide +kernel
theorem dX9_advance_53 : decode cX9_advance 53 = .ok (.invokevirtual 91, 3) := by decide +kernel
theorem dX9_advance_56 : decode cX9_advance 56 = .ok (.goto 72, 3) := by decide +kernel
theorem dX9_advance_128 : decode cX9_advance 128 = .ok (.return_, 1) := by decide +kernel
theorem dX9_at_0 : decode cX9_at 0 = .ok (.iload_n 1, 1) := by decide +kernel
theorem dX9_at_1 : decode cX9_at 1 = .ok (.ifCond .lt 33, 3) := by decide +kernel
theorem dX9_at_4 : decode cX9_at 4 = .ok (.iload_n 1, 1) := by decide +kernel
theorem dX9_at_5 : decode cX9_at 5 = .ok (.aload_n 0, 1) := by decide +kernel
theorem dX9_at_6 : decode cX9_at 6 = .ok (.getfield 31, 3) := by decide +kernel
theorem dX9_at_9 : decode cX9_at 9 = .ok (.if_icmp .ge 25, 3) := by decide +kernel
theorem dX9_at_34 : decode cX9_at 34 = .ok (.iconst (-1), 1) := by decide +kernel
theorem dX9_at_35 : decode cX9_at 35 = .ok (.ireturn, 1) := by decide +kernel
theorem dX9_codeAt_0 : decode cX9_codeAt 0 = .ok (.iload_n 1, 1) := by decide +kernel
theorem dX9_codeAt_1 : decode cX9_codeAt 1 = .ok (.ifCond .lt 29, 3) := by decide +kernel
theorem dX9_codeAt_4 : decode cX9_codeAt 4 = .ok (.iload_n 1, 1) := by decide +kernel
theorem dX9_codeAt_5 : decode cX9_codeAt 5 = .ok (.aload_n 0, 1) := by decide +kernel
theorem dX9_codeAt_6 : decode cX9_codeAt 6 = .ok (.getfield 53, 3) := by decide +kernel
theorem dX9_codeAt_9 : decode cX9_codeAt 9 = .ok (.if_icmp .ge 21, 3) := by decide +kernel
theorem dX9_codeAt_30 : decode cX9_codeAt 30 = .ok (.iconst 0, 1) := by decide +kernel
theorem dX9_codeAt_31 : decode cX9_codeAt 31 = .ok (.ireturn, 1) := by decide +kernel
theorem dX9_init_0 : decode cX9_init 0 = .ok (.aload_n 0, 1) := by decide +kernel
theorem dX9_init_1 : decode cX9_init 1 = .ok (.invokespecial 3, 3) := by decide +kernel
theorem dX9_init_4 : decode cX9_init 4 = .ok (.aload_n 0, 1) := by decide +kernel
theorem dX9_init_5 : decode cX9_init 5 = .ok (.iconst (-1), 1) := by decide +kernel
theorem dX9_init_6 : decode cX9_init 6 = .ok (.putfield 9, 3) := by decide +kernel
theorem dX9_init_9 : decode cX9_init 9 = .ok (.aload_n 0, 1) := by decide +kernel
theorem dX9_init_10 : decode cX9_init 10 = .ok (.aload_n 1, 1) := by decide +kernel
theorem dX9_init_11 : decode cX9_init 11 = .ok (.putfield 15, 3) := by decide +kernel
theorem dX9_init_14 : decode cX9_init 14 = .ok (.aload_n 0, 1) := by decide +kernel
theorem dX9_init_15 : decode cX9_init 15 = .ok (.aload_n 1, 1) := by decide +kernel
theorem dX9_init_16 : decode cX9_init 16 = .ok (.getfield 19, 3) := by decide +kernel
theorem dX9_init_19 : decode cX9_init 19 = .ok (.putfield 25, 3) := by decide +kernel
theorem dX9_init_22 : decode cX9_init 22 = .ok (.aload_n 0, 1) := by decide +kernel
theorem dX9_init_23 : decode cX9_init 23 = .ok (.aload_n 1, 1) := by decide +kernel
theorem dX9_init_24 : decode cX9_init 24 = .ok (.getfield 28, 3) := by decide +kernel
theorem dX9_init_27 : decode cX9_init 27 = .ok (.putfield 31, 3) := by decide +kernel
theorem dX9_init_30 : decode cX9_init 30 = .ok (.aload_n 0, 1) := by decide +kernel
theorem dX9_init_31 : decode cX9_init 31 = .ok (.bipush 16, 2) := by decide +kernel
theorem dX9_init_33 : decode cX9_init 33 = .ok (.iconst 5, 1) := by decide +kernel
theorem dX9_init_34 : decode cX9_init 34 = .ok (.aload_n 0, 1) := by decide +kernel
theorem dX9_init_35 : decode cX9_init 35 = .ok (.getfield 31, 3) := by decide +kernel
theorem dX9_init_38 : decode cX9_init 38 = .ok (.imul, 1) := by decide +kernel
theorem dX9_init_39 : decode cX9_init 39 = .ok (.iadd, 1) := by decide +kernel
theorem dX9_init_40 : decode cX9_init 40 = .ok (.newarray .int, 2) := by decide +kernel
theorem dX9_init_42 : decode cX9_init 42 = .ok (.putfield 32, 3) := by decide +kernel
theorem dX9_init_45 : decode cX9_init 45 = .ok (.aload_n 0, 1) := by decide +kernel
theorem dX9_init_46 : decode cX9_init 46 = .ok (.iload_n 2, 1) := by decide +kernel
theorem dX9_init_47 : decode cX9_init 47 = .ok (.putfield 36, 3) := by decide +kernel
theorem dX9_init_50 : decode cX9_init 50 = .ok (.return_, 1) := by decide +kernel
theorem dX9_isWrong_0 : decode cX9_isWrong 0 = .ok (.aload_n 0, 1) := by decide +kernel
theorem dX9_isWrong_1 : decode cX9_isWrong 1 = .ok (.getfield 9, 3) := by decide +kernel
theorem dX9_isWrong_4 : decode cX9_isWrong 4 = .ok (.ifCond .lt 7, 3) := by decide +kernel
theorem dX9_isWrong_11 : decode cX9_isWrong 11 = .ok (.iconst 0, 1) := by decide +kernel
theorem dX9_isWrong_12 : decode cX9_isWrong 12 = .ok (.ireturn, 1) := by decide +kernel
theorem dX9_next_0 : decode cX9_next 0 = .ok (.aload_n 0, 1) := by decide +kernel
theorem dX9_next_1 : decode cX9_next 1 = .ok (.invokevirtual 40, 3) := by decide +kernel
theorem dX9_next_4 : decode cX9_next 4 = .ok (.aload_n 0, 1) := by decide +kernel
theorem dX9_next_5 : decode cX9_next 5 = .ok (.invokevirtual 43, 3) := by decide +kernel
theorem dX9_next_8 : decode cX9_next 8 = .ok (.aload_n 0, 1) := by decide +kernel
theorem dX9_next_9 : decode cX9_next 9 = .ok (.invokevirtual 46, 3) := by decide +kernel
theorem dX9_next_12 : decode cX9_next 12 = .ok (.ifCond .ne 10, 3) := by decide +kernel
theorem dX9_next_15 : decode cX9_next 15 = .ok (.aload_n 0, 1) := by decide +kernel
theorem dX9_next_16 : decode cX9_next 16 = .ok (.getfield 50, 3) := by decide +kernel
theorem dX9_next_19 : decode cX9_next 19 = .ok (.ifCond .ne 5, 3) := by decide +kernel
theorem dX9_next_22 : decode cX9_next 22 = .ok (.iconst (-1), 1) := by decide +kernel
theorem dX9_next_23 : decode cX9_next 23 = .ok (.ireturn, 1) := by decide +kernel
theorem dX9_passBlanks_0 : decode cX9_passBlanks 0 = .ok (.aload_n 0, 1) := by decide +kernel
theorem dX9_passBlanks_1 : decode cX9_passBlanks 1 = .ok (.getfield 81, 3) := by decide +kernel
theorem dX9_passBlanks_4 : decode cX9_passBlanks 4 = .ok (.istore_n 1, 1) := by decide +kernel
theorem dX9_passBlanks_5 : decode cX9_passBlanks 5 = .ok (.iload_n 1, 1) := by decide +kernel
theorem dX9_passBlanks_6 : decode cX9_passBlanks 6 = .ok (.aload_n 0, 1) := by decide +kernel
theorem dX9_passBlanks_7 : decode cX9_passBlanks 7 = .ok (.getfield 31, 3) := by decide +kernel
theorem dX9_passBlanks_10 : decode cX9_passBlanks 10 = .ok (.if_icmp .ge 74, 3) := by decide +kernel
theorem dX9_passBlanks_84 : decode cX9_passBlanks 84 = .ok (.aload_n 0, 1) := by decide +kernel
theorem dX9_passBlanks_85 : decode cX9_passBlanks 85 = .ok (.aload_n 0, 1) := by decide +kernel
theorem dX9_passBlanks_86 : decode cX9_passBlanks 86 = .ok (.getfield 81, 3) := by decide +kernel
theorem dX9_passBlanks_89 : decode cX9_passBlanks 89 = .ok (.invokevirtual 84, 3) := by decide +kernel
theorem dX9_passBlanks_92 : decode cX9_passBlanks 92 = .ok (.bipush 35, 2) := by decide +kernel
theorem dX9_passBlanks_94 : decode cX9_passBlanks 94 = .ok (.if_icmp .ne 40, 3) := by decide +kernel
theorem dX9_passBlanks_134 : decode cX9_passBlanks 134 = .ok (.return_, 1) := by decide +kernel
theorem dX9_skipLines_0 : decode cX9_skipLines 0 = .ok (.iconst 0, 1) := by decide +kernel
theorem dX9_skipLines_1 : decode cX9_skipLines 1 = .ok (.istore_n 1, 1) := by decide +kernel
theorem dX9_skipLines_2 : decode cX9_skipLines 2 = .ok (.iload_n 1, 1) := by decide +kernel
theorem dX9_skipLines_3 : decode cX9_skipLines 3 = .ok (.aload_n 0, 1) := by decide +kernel
theorem dX9_skipLines_4 : decode cX9_skipLines 4 = .ok (.getfield 31, 3) := by decide +kernel
theorem dX9_skipLines_7 : decode cX9_skipLines 7 = .ok (.if_icmp .gt 21, 3) := by decide +kernel
theorem dX9_skipLines_10 : decode cX9_skipLines 10 = .ok (.aload_n 0, 1) := by decide +kernel
theorem dX9_skipLines_11 : decode cX9_skipLines 11 = .ok (.getfield 50, 3) := by decide +kernel
theorem dX9_skipLines_14 : decode cX9_skipLines 14 = .ok (.iconst 1, 1) := by decide +kernel
theorem dX9_skipLines_15 : decode cX9_skipLines 15 = .ok (.if_icmp .ne 13, 3) := by decide +kernel
theorem dX9_skipLines_28 : decode cX9_skipLines 28 = .ok (.return_, 1) := by decide +kernel
theorem dX9_takeTexts_0 : decode cX9_takeTexts 0 = .ok (.iconst 0, 1) := by decide +kernel
theorem dX9_takeTexts_1 : decode cX9_takeTexts 1 = .ok (.istore_n 1, 1) := by decide +kernel
theorem dX9_takeTexts_2 : decode cX9_takeTexts 2 = .ok (.aload_n 0, 1) := by decide +kernel
theorem dX9_takeTexts_3 : decode cX9_takeTexts 3 = .ok (.getfield 116, 3) := by decide +kernel
theorem dX9_takeTexts_6 : decode cX9_takeTexts 6 = .ok (.ifnull 220, 3) := by decide +kernel
theorem dX9_takeTexts_226 : decode cX9_takeTexts 226 = .ok (.aload_n 0, 1) := by decide +kernel
theorem dX9_takeTexts_227 : decode cX9_takeTexts 227 = .ok (.iconst 0, 1) := by decide +kernel
theorem dX9_takeTexts_228 : decode cX9_takeTexts 228 = .ok (.putfield 119, 3) := by decide +kernel
theorem dX9_takeTexts_231 : decode cX9_takeTexts 231 = .ok (.return_, 1) := by decide +kernel
