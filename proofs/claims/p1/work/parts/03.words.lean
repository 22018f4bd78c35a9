-- what a word must be to hold behind any warming of the tables
def nestW : Cond → Bool
  | .fieldLinkNest _ _ _ _ _ _ => true
  | .methodLinkNest _ _ _ _ => true
  | .arrayOver (.object _) => true
  | .castable _ _ => true
  | _ => false
def okW (w : Cond) : Bool := goodWord w || nestW w
theorem okW_warm {w : Cond} {args a' : Array Value} {s U : State} (hok : okW w = true) (hW : s.WarmedH U.vm) (h : w.before args s = true) : w.before a' U = true := by
  rcases Bool.or_eq_true _ _ ▸ hok with h1 | h1
  · exact word_at hW (good_of_word h1) h
  · cases w with
    | fieldLinkNest a i b n d g => exact va_Nw.use rfl (va_Nw.warmF hW (va_Nw.of rfl h))
    | methodLinkNest a i x g => exact va_Nw.use rfl (va_Nw.warmM hW (va_Nw.of rfl h))
    | arrayOver ty =>
      cases ty with
      | object C => exact va_AO.use (va_AO.moved hW.alike (va_AO.of h))
      | _ => simp [nestW] at h1
    | castable a b => exact va_Nw.use rfl (va_Nw.warmC hW (va_Nw.of rfl h))
    | _ => simp [nestW] at h1
def wC : List Cond := u_ws RJx4a65c TJx4a65c 3 ++ (u_ws RX0 TX0 11 ++ (u_ws RX1 TX1 20 ++ (u_ws RX2 TX2 2 ++ (u_ws RX3 TX3 4 ++ (u_ws RX4 TX4 9 ++ (u_ws RX5 TX5 19 ++ (u_ws RX6 TX6 4 ++ (u_ws RX7 TX7 14 ++ (u_ws RX8 TX8 9 ++ (u_ws RX9 TX9 15 ++ (u_ws RX10 TX10 16 ++ (u_ws RX11 TX11 9 ++ (u_ws RX12 TX12 5 ++ (u_ws RX13 TX13 89))))))))))))))
def wL0 : List Cond := [(Jvm.Cond.classLink "CommandHouseLaw" (7 : Nat) "CommandHouse"),
  (Jvm.Cond.instantiable "CommandHouse" (5 : Nat)),
  (Jvm.Cond.initialized "CommandHouse"),
  (Jvm.Cond.methodLink "CommandHouse" (1 : Nat) ({ cls := "java/lang/Object", name := "<init>", desc := "()V" } : Jvm.MethodName)),
  (Jvm.Cond.instanceMethod ({ cls := "java/lang/Object", name := "<init>", desc := "()V" } : Jvm.MethodName)),
  (Jvm.Cond.code ({ cls := "java/lang/Object", name := "<init>", desc := "()V" } : Jvm.MethodName) object_method_1_code (1 : Nat) (Option.none : Option Jvm.ClassFile.FieldType)),
  (Jvm.Cond.arrayClass Jvm.ClassFile.FieldType.byte),
  (Jvm.Cond.fieldLink "CommandHouse" (9 : Nat) "CommandHouse" "tape" "[B"),
  (Jvm.Cond.classLink "CommandHouse" (13 : Nat) "CommandHouse$Book"),
  (Jvm.Cond.instantiable "CommandHouse$Book" (11 : Nat)),
  (Jvm.Cond.initialized "CommandHouse$Book"),
  (Jvm.Cond.methodLink "CommandHouse$Book" (3 : Nat) ({ cls := "java/lang/Object", name := "<init>", desc := "()V" } : Jvm.MethodName)),
  (Jvm.Cond.arrayClass Jvm.ClassFile.FieldType.int),
  (Jvm.Cond.fieldLink "CommandHouse$Book" (9 : Nat) "CommandHouse$Book" "diagnostics" "[I"),
  (Jvm.Cond.classLink "CommandHouse$Book" (15 : Nat) "CommandHouse$Bytes"),
  (Jvm.Cond.arrayOver (Jvm.ClassFile.FieldType.object "CommandHouse$Bytes")),
  (Jvm.Cond.fieldLink "CommandHouse$Book" (17 : Nat) "CommandHouse$Book" "files" "[LCommandHouse$Bytes;"),
  (Jvm.Cond.instantiable "CommandHouse$Bytes" (4 : Nat)),
  (Jvm.Cond.initialized "CommandHouse$Bytes"),
  (Jvm.Cond.methodLink "CommandHouse$Bytes" (1 : Nat) ({ cls := "java/lang/Object", name := "<init>", desc := "()V" } : Jvm.MethodName))]
def wL1 : List Cond := [(Jvm.Cond.fieldLink "CommandHouse$Bytes" (22 : Nat) "CommandHouse$Bytes" "b" "[B"),
  (Jvm.Cond.fieldLink "CommandHouse$Bytes" (32 : Nat) "CommandHouse$Bytes" "bound" "I"),
  (Jvm.Cond.fieldLink "CommandHouse$Bytes" (35 : Nat) "CommandHouse$Bytes" "name" "LCommandHouse$Bytes;"),
  (Jvm.Cond.fieldLink "CommandHouse$Book" (24 : Nat) "CommandHouse$Book" "out" "LCommandHouse$Bytes;"),
  (Jvm.Cond.fieldLinkNest "CommandHouse$Book" (28 : Nat) "CommandHouse" "NEW_LINE" "[B" "CommandHouse"),
  (Jvm.Cond.methodLink "CommandHouse$Bytes" (7 : Nat) ({ cls := "java/lang/Math", name := "min", desc := "(II)I" } : Jvm.MethodName)),
  (Jvm.Cond.static ({ cls := "java/lang/Math", name := "min", desc := "(II)I" } : Jvm.MethodName)),
  (Jvm.Cond.initialized "java/lang/Math"),
  (Jvm.Cond.code ({ cls := "java/lang/Math", name := "min", desc := "(II)I" } : Jvm.MethodName) prog_21_method_69_code (2 : Nat) (Option.some Jvm.ClassFile.FieldType.int)),
  (Jvm.Cond.methodLink "CommandHouse$Bytes" (13 : Nat) ({ cls := "java/lang/Math", name := "max", desc := "(II)I" } : Jvm.MethodName)),
  (Jvm.Cond.static ({ cls := "java/lang/Math", name := "max", desc := "(II)I" } : Jvm.MethodName)),
  (Jvm.Cond.code ({ cls := "java/lang/Math", name := "max", desc := "(II)I" } : Jvm.MethodName) prog_21_method_65_code (2 : Nat) (Option.some Jvm.ClassFile.FieldType.int)),
  (Jvm.Cond.fieldLink "CommandHouse$Bytes" (16 : Nat) "CommandHouse$Bytes" "n" "I"),
  (Jvm.Cond.methodLink "CommandHouse$Bytes" (26 : Nat) ({ cls := "java/lang/System", name := "arraycopy", desc := "(Ljava/lang/Object;ILjava/lang/Object;II)V" } : Jvm.MethodName)),
  (Jvm.Cond.native ({ cls := "java/lang/System", name := "arraycopy", desc := "(Ljava/lang/Object;ILjava/lang/Object;II)V" } : Jvm.MethodName)),
  (Jvm.Cond.static ({ cls := "java/lang/System", name := "arraycopy", desc := "(Ljava/lang/Object;ILjava/lang/Object;II)V" } : Jvm.MethodName)),
  (Jvm.Cond.initialized "java/lang/System"),
  (Jvm.Cond.fieldLink "CommandHouse$Book" (35 : Nat) "CommandHouse$Book" "nothing" "LCommandHouse$Bytes;"),
  (Jvm.Cond.fieldLink "CommandHouse" (16 : Nat) "CommandHouse" "book" "LCommandHouse$Book;"),
  (Jvm.Cond.classLink "CommandHouse" (20 : Nat) "CommandHouse$Words")]
def wL2 : List Cond := [(Jvm.Cond.instantiable "CommandHouse$Words" (9 : Nat)),
  (Jvm.Cond.initialized "CommandHouse$Words"),
  (Jvm.Cond.methodLink "CommandHouse$Words" (3 : Nat) ({ cls := "java/lang/Object", name := "<init>", desc := "()V" } : Jvm.MethodName)),
  (Jvm.Cond.classLink "CommandHouse$Words" (9 : Nat) "CommandHouse$Pattern"),
  (Jvm.Cond.instantiable "CommandHouse$Pattern" (9 : Nat)),
  (Jvm.Cond.initialized "CommandHouse$Pattern"),
  (Jvm.Cond.methodLink "CommandHouse$Pattern" (3 : Nat) ({ cls := "java/lang/Object", name := "<init>", desc := "()V" } : Jvm.MethodName)),
  (Jvm.Cond.fieldLink "CommandHouse$Pattern" (9 : Nat) "CommandHouse$Pattern" "b" "[B"),
  (Jvm.Cond.fieldLink "CommandHouse$Pattern" (15 : Nat) "CommandHouse$Pattern" "quoted" "[B"),
  (Jvm.Cond.fieldLink "CommandHouse$Pattern" (18 : Nat) "CommandHouse$Pattern" "kinds" "[I"),
  (Jvm.Cond.fieldLink "CommandHouse$Pattern" (22 : Nat) "CommandHouse$Pattern" "details" "[I"),
  (Jvm.Cond.fieldLink "CommandHouse$Pattern" (25 : Nat) "CommandHouse$Pattern" "reached" "[B"),
  (Jvm.Cond.arrayClass Jvm.ClassFile.FieldType.long),
  (Jvm.Cond.fieldLink "CommandHouse$Pattern" (28 : Nat) "CommandHouse$Pattern" "bits" "[J"),
  (Jvm.Cond.fieldLink "CommandHouse$Words" (12 : Nat) "CommandHouse$Words" "pattern" "LCommandHouse$Pattern;"),
  (Jvm.Cond.classLink "CommandHouse$Words" (18 : Nat) "CommandHouse$Expression"),
  (Jvm.Cond.instantiable "CommandHouse$Expression" (9 : Nat)),
  (Jvm.Cond.initialized "CommandHouse$Expression"),
  (Jvm.Cond.methodLink "CommandHouse$Expression" (3 : Nat) ({ cls := "java/lang/Object", name := "<init>", desc := "()V" } : Jvm.MethodName)),
  (Jvm.Cond.fieldLink "CommandHouse$Expression" (9 : Nat) "CommandHouse$Expression" "values" "[I")]
def wL3 : List Cond := [(Jvm.Cond.fieldLink "CommandHouse$Expression" (15 : Nat) "CommandHouse$Expression" "signs" "[I"),
  (Jvm.Cond.fieldLink "CommandHouse$Expression" (18 : Nat) "CommandHouse$Expression" "s" "[B"),
  (Jvm.Cond.fieldLink "CommandHouse$Words" (21 : Nat) "CommandHouse$Words" "expression" "LCommandHouse$Expression;"),
  (Jvm.Cond.classLink "CommandHouse$Words" (25 : Nat) "java/util/ArrayList"),
  (Jvm.Cond.instantiable "java/util/ArrayList" (3 : Nat)),
  (Jvm.Cond.initialized "java/util/ArrayList"),
  (Jvm.Cond.methodLink "java/util/AbstractCollection" (1 : Nat) ({ cls := "java/lang/Object", name := "<init>", desc := "()V" } : Jvm.MethodName)),
  (Jvm.Cond.fieldLink "java/util/AbstractList" (7 : Nat) "java/util/AbstractList" "modCount" "I"),
  (Jvm.Cond.fieldLink "java/util/ArrayList" (39 : Nat) "java/util/ArrayList" "DEFAULTCAPACITY_EMPTY_ELEMENTDATA" "[Ljava/lang/Object;"),
  (Jvm.Cond.fieldLink "java/util/ArrayList" (9 : Nat) "java/util/ArrayList" "elementData" "[Ljava/lang/Object;"),
  (Jvm.Cond.fieldLink "CommandHouse$Words" (28 : Nat) "CommandHouse$Words" "builders" "Ljava/util/ArrayList;"),
  (Jvm.Cond.fieldLink "CommandHouse$Words" (32 : Nat) "CommandHouse$Words" "digits" "[B"),
  (Jvm.Cond.classLink "CommandHouse$Words" (36 : Nat) "CommandHouse$Bytes"),
  (Jvm.Cond.fieldLink "CommandHouse$Words" (41 : Nat) "CommandHouse$Words" "decimal" "LCommandHouse$Bytes;"),
  (Jvm.Cond.fieldLink "CommandHouse$Words" (45 : Nat) "CommandHouse$Words" "book" "LCommandHouse$Book;"),
  (Jvm.Cond.fieldLinkNest "CommandHouse$Words" (49 : Nat) "CommandHouse$Book" "nothing" "LCommandHouse$Bytes;" "CommandHouse"),
  (Jvm.Cond.fieldLink "CommandHouse$Words" (54 : Nat) "CommandHouse$Words" "nothing" "LCommandHouse$Bytes;"),
  (Jvm.Cond.classLink "CommandHouse" (25 : Nat) "CommandHouse$Builtins"),
  (Jvm.Cond.instantiable "CommandHouse$Builtins" (2 : Nat)),
  (Jvm.Cond.initialized "CommandHouse$Builtins")]
def wL4 : List Cond := [(Jvm.Cond.methodLink "CommandHouse$Builtins" (3 : Nat) ({ cls := "java/lang/Object", name := "<init>", desc := "()V" } : Jvm.MethodName)),
  (Jvm.Cond.fieldLink "CommandHouse$Builtins" (9 : Nat) "CommandHouse$Builtins" "book" "LCommandHouse$Book;"),
  (Jvm.Cond.classLink "CommandHouse" (28 : Nat) "CommandHouse$Machine"),
  (Jvm.Cond.instantiable "CommandHouse$Machine" (14 : Nat)),
  (Jvm.Cond.initialized "CommandHouse$Machine"),
  (Jvm.Cond.methodLink "CommandHouse$Machine" (3 : Nat) ({ cls := "java/lang/Object", name := "<init>", desc := "()V" } : Jvm.MethodName)),
  (Jvm.Cond.classLink "CommandHouse$Machine" (9 : Nat) "java/util/ArrayList"),
  (Jvm.Cond.fieldLink "CommandHouse$Machine" (12 : Nat) "CommandHouse$Machine" "frames" "Ljava/util/ArrayList;"),
  (Jvm.Cond.classLink "CommandHouse$Machine" (18 : Nat) "CommandHouse$State"),
  (Jvm.Cond.instantiable "CommandHouse$State" (16 : Nat)),
  (Jvm.Cond.initialized "CommandHouse$State"),
  (Jvm.Cond.methodLink "CommandHouse$State" (3 : Nat) ({ cls := "java/lang/Object", name := "<init>", desc := "()V" } : Jvm.MethodName)),
  (Jvm.Cond.classLink "CommandHouse$State" (9 : Nat) "CommandHouse$Bytes"),
  (Jvm.Cond.fieldLink "CommandHouse$State" (11 : Nat) "CommandHouse$State" "sources" "[LCommandHouse$Bytes;"),
  (Jvm.Cond.fieldLink "CommandHouse$State" (17 : Nat) "CommandHouse$State" "nameFrom" "[I"),
  (Jvm.Cond.fieldLink "CommandHouse$State" (21 : Nat) "CommandHouse$State" "nameTo" "[I"),
  (Jvm.Cond.fieldLink "CommandHouse$State" (24 : Nat) "CommandHouse$State" "values" "[LCommandHouse$Bytes;"),
  (Jvm.Cond.fieldLink "CommandHouse$State" (27 : Nat) "CommandHouse$State" "parameters" "[LCommandHouse$Bytes;"),
  (Jvm.Cond.classLink "CommandHouse$State" (30 : Nat) "CommandHouse$Script"),
  (Jvm.Cond.arrayOver (Jvm.ClassFile.FieldType.object "CommandHouse$Script"))]
def wL5 : List Cond := [(Jvm.Cond.fieldLink "CommandHouse$State" (32 : Nat) "CommandHouse$State" "scripts" "[LCommandHouse$Script;"),
  (Jvm.Cond.fieldLink "CommandHouse$State" (36 : Nat) "CommandHouse$State" "functionFrom" "[I"),
  (Jvm.Cond.fieldLink "CommandHouse$State" (39 : Nat) "CommandHouse$State" "functionTo" "[I"),
  (Jvm.Cond.fieldLink "CommandHouse$State" (42 : Nat) "CommandHouse$State" "entries" "[I"),
  (Jvm.Cond.fieldLink "CommandHouse$Machine" (21 : Nat) "CommandHouse$Machine" "first" "LCommandHouse$State;"),
  (Jvm.Cond.classLink "CommandHouse$Machine" (25 : Nat) "CommandHouse$Bytes"),
  (Jvm.Cond.fieldLink "CommandHouse$Machine" (27 : Nat) "CommandHouse$Machine" "none" "[LCommandHouse$Bytes;"),
  (Jvm.Cond.fieldLink "CommandHouse$Machine" (31 : Nat) "CommandHouse$Machine" "state" "LCommandHouse$State;"),
  (Jvm.Cond.fieldLink "CommandHouse$Machine" (34 : Nat) "CommandHouse$Machine" "wrongPlace" "I"),
  (Jvm.Cond.fieldLink "CommandHouse$Machine" (38 : Nat) "CommandHouse$Machine" "book" "LCommandHouse$Book;"),
  (Jvm.Cond.fieldLink "CommandHouse$Machine" (42 : Nat) "CommandHouse$Machine" "words" "LCommandHouse$Words;"),
  (Jvm.Cond.fieldLink "CommandHouse$Machine" (46 : Nat) "CommandHouse$Machine" "builtins" "LCommandHouse$Builtins;"),
  (Jvm.Cond.fieldLinkNest "CommandHouse$Machine" (50 : Nat) "CommandHouse$Book" "out" "LCommandHouse$Bytes;" "CommandHouse"),
  (Jvm.Cond.fieldLink "CommandHouse$Machine" (56 : Nat) "CommandHouse$Machine" "out" "LCommandHouse$Bytes;"),
  (Jvm.Cond.classLink "CommandHouse$Machine" (57 : Nat) "CommandHouse$Input"),
  (Jvm.Cond.instantiable "CommandHouse$Input" (4 : Nat)),
  (Jvm.Cond.initialized "CommandHouse$Input"),
  (Jvm.Cond.fieldLinkNest "CommandHouse$Machine" (59 : Nat) "CommandHouse$Book" "nothing" "LCommandHouse$Bytes;" "CommandHouse"),
  (Jvm.Cond.methodLink "CommandHouse$Input" (1 : Nat) ({ cls := "java/lang/Object", name := "<init>", desc := "()V" } : Jvm.MethodName)),
  (Jvm.Cond.fieldLink "CommandHouse$Input" (13 : Nat) "CommandHouse$Input" "source" "LCommandHouse$Bytes;")]
def wL6 : List Cond := [(Jvm.Cond.fieldLinkNest "CommandHouse$Input" (17 : Nat) "CommandHouse$Bytes" "b" "[B" "CommandHouse"),
  (Jvm.Cond.fieldLink "CommandHouse$Input" (23 : Nat) "CommandHouse$Input" "text" "[B"),
  (Jvm.Cond.fieldLinkNest "CommandHouse$Input" (26 : Nat) "CommandHouse$Bytes" "n" "I" "CommandHouse"),
  (Jvm.Cond.fieldLink "CommandHouse$Input" (30 : Nat) "CommandHouse$Input" "end" "I"),
  (Jvm.Cond.fieldLink "CommandHouse$Input" (33 : Nat) "CommandHouse$Input" "taken" "I"),
  (Jvm.Cond.fieldLink "CommandHouse$Machine" (65 : Nat) "CommandHouse$Machine" "in" "LCommandHouse$Input;"),
  (Jvm.Cond.classLink "CommandHouse$Machine" (69 : Nat) "CommandHouse$Script"),
  (Jvm.Cond.instantiable "CommandHouse$Script" (15 : Nat)),
  (Jvm.Cond.initialized "CommandHouse$Script"),
  (Jvm.Cond.methodLink "CommandHouse$Script" (3 : Nat) ({ cls := "java/lang/Object", name := "<init>", desc := "()V" } : Jvm.MethodName)),
  (Jvm.Cond.fieldLink "CommandHouse$Script" (9 : Nat) "CommandHouse$Script" "wrongAt" "I"),
  (Jvm.Cond.fieldLink "CommandHouse$Script" (15 : Nat) "CommandHouse$Script" "text" "LCommandHouse$Bytes;"),
  (Jvm.Cond.fieldLinkNest "CommandHouse$Script" (19 : Nat) "CommandHouse$Bytes" "b" "[B" "CommandHouse"),
  (Jvm.Cond.fieldLink "CommandHouse$Script" (25 : Nat) "CommandHouse$Script" "src" "[B"),
  (Jvm.Cond.fieldLinkNest "CommandHouse$Script" (28 : Nat) "CommandHouse$Bytes" "n" "I" "CommandHouse"),
  (Jvm.Cond.fieldLink "CommandHouse$Script" (31 : Nat) "CommandHouse$Script" "n" "I"),
  (Jvm.Cond.fieldLink "CommandHouse$Script" (32 : Nat) "CommandHouse$Script" "code" "[I"),
  (Jvm.Cond.fieldLink "CommandHouse$Script" (36 : Nat) "CommandHouse$Script" "isMain" "Z"),
  (Jvm.Cond.fieldLink "CommandHouse$Machine" (74 : Nat) "CommandHouse$Machine" "script" "LCommandHouse$Script;"),
  (Jvm.Cond.classLink "CommandHouse$Machine" (78 : Nat) "CommandHouse$Frame")]
def wL7 : List Cond := [(Jvm.Cond.instantiable "CommandHouse$Frame" (19 : Nat)),
  (Jvm.Cond.initialized "CommandHouse$Frame"),
  (Jvm.Cond.methodLink "CommandHouse$Frame" (1 : Nat) ({ cls := "java/lang/Object", name := "<init>", desc := "()V" } : Jvm.MethodName)),
  (Jvm.Cond.sameField "java/util/ArrayList" "java/util/AbstractList" "modCount" "I"),
  (Jvm.Cond.fieldLink "java/util/ArrayList" (63 : Nat) "java/util/ArrayList" "modCount" "I"),
  (Jvm.Cond.fieldLink "java/util/ArrayList" (48 : Nat) "java/util/ArrayList" "size" "I"),
  (Jvm.Cond.methodLink "java/util/ArrayList" (79 : Nat) ({ cls := "java/lang/Math", name := "max", desc := "(II)I" } : Jvm.MethodName)),
  (Jvm.Cond.classLink "java/util/ArrayList" (7 : Nat) "java/lang/Object"),
  (Jvm.Cond.arrayOver (Jvm.ClassFile.FieldType.object "java/lang/Object")),
  (Jvm.Cond.castable "CommandHouse$Frame" "java/lang/Object"),
  (Jvm.Cond.fieldLink "CommandHouse" (33 : Nat) "CommandHouse" "machine" "LCommandHouse$Machine;"),
  (Jvm.Cond.fieldLinkNest "CommandHouse" (37 : Nat) "CommandHouse$Words" "machine" "LCommandHouse$Machine;" "CommandHouse"),
  (Jvm.Cond.fieldLinkNest "CommandHouse" (38 : Nat) "CommandHouse$Builtins" "machine" "LCommandHouse$Machine;" "CommandHouse"),
  (Jvm.Cond.classLink "CommandHouse" (39 : Nat) "CommandHouse$Bytes"),
  (Jvm.Cond.fieldLink "CommandHouse" (44 : Nat) "CommandHouse" "fed" "LCommandHouse$Bytes;"),
  (Jvm.Cond.code ({ cls := "CommandHouse$Bytes", name := "<init>", desc := "(ILCommandHouse$Bytes;)V" } : Jvm.MethodName) prog_5_method_2_code (3 : Nat) (Option.none : Option Jvm.ClassFile.FieldType)),
  (Jvm.Cond.methodLinkNest "CommandHouse$Book" (21 : Nat) ({ cls := "CommandHouse$Bytes", name := "<init>", desc := "(ILCommandHouse$Bytes;)V" } : Jvm.MethodName) "CommandHouse"),
  (Jvm.Cond.instanceMethod ({ cls := "CommandHouse$Bytes", name := "<init>", desc := "(ILCommandHouse$Bytes;)V" } : Jvm.MethodName)),
  (Jvm.Cond.code ({ cls := "CommandHouse$Bytes", name := "<init>", desc := "([BII)V" } : Jvm.MethodName) prog_5_method_1_code (5 : Nat) (Option.none : Option Jvm.ClassFile.FieldType)),
  (Jvm.Cond.methodLinkNest "CommandHouse$Book" (32 : Nat) ({ cls := "CommandHouse$Bytes", name := "<init>", desc := "([BII)V" } : Jvm.MethodName) "CommandHouse")]
def wL8 : List Cond := [(Jvm.Cond.instanceMethod ({ cls := "CommandHouse$Bytes", name := "<init>", desc := "([BII)V" } : Jvm.MethodName)),
  (Jvm.Cond.code ({ cls := "CommandHouse$Book", name := "<init>", desc := "()V" } : Jvm.MethodName) prog_2_method_1_code (1 : Nat) (Option.none : Option Jvm.ClassFile.FieldType)),
  (Jvm.Cond.methodLinkNest "CommandHouse" (15 : Nat) ({ cls := "CommandHouse$Book", name := "<init>", desc := "()V" } : Jvm.MethodName) "CommandHouse"),
  (Jvm.Cond.instanceMethod ({ cls := "CommandHouse$Book", name := "<init>", desc := "()V" } : Jvm.MethodName)),
  (Jvm.Cond.code ({ cls := "CommandHouse$Pattern", name := "<init>", desc := "()V" } : Jvm.MethodName) prog_10_method_1_code (1 : Nat) (Option.none : Option Jvm.ClassFile.FieldType)),
  (Jvm.Cond.methodLinkNest "CommandHouse$Words" (11 : Nat) ({ cls := "CommandHouse$Pattern", name := "<init>", desc := "()V" } : Jvm.MethodName) "CommandHouse"),
  (Jvm.Cond.instanceMethod ({ cls := "CommandHouse$Pattern", name := "<init>", desc := "()V" } : Jvm.MethodName)),
  (Jvm.Cond.code ({ cls := "CommandHouse$Expression", name := "<init>", desc := "()V" } : Jvm.MethodName) prog_6_method_1_code (1 : Nat) (Option.none : Option Jvm.ClassFile.FieldType)),
  (Jvm.Cond.methodLinkNest "CommandHouse$Words" (20 : Nat) ({ cls := "CommandHouse$Expression", name := "<init>", desc := "()V" } : Jvm.MethodName) "CommandHouse"),
  (Jvm.Cond.instanceMethod ({ cls := "CommandHouse$Expression", name := "<init>", desc := "()V" } : Jvm.MethodName)),
  (Jvm.Cond.code ({ cls := "java/util/AbstractCollection", name := "<init>", desc := "()V" } : Jvm.MethodName) prog_28_method_1_code (1 : Nat) (Option.none : Option Jvm.ClassFile.FieldType)),
  (Jvm.Cond.initialized "java/util/AbstractCollection"),
  (Jvm.Cond.methodLink "java/util/AbstractList" (1 : Nat) ({ cls := "java/util/AbstractCollection", name := "<init>", desc := "()V" } : Jvm.MethodName)),
  (Jvm.Cond.instanceMethod ({ cls := "java/util/AbstractCollection", name := "<init>", desc := "()V" } : Jvm.MethodName)),
  (Jvm.Cond.code ({ cls := "java/util/AbstractList", name := "<init>", desc := "()V" } : Jvm.MethodName) prog_29_method_1_code (1 : Nat) (Option.none : Option Jvm.ClassFile.FieldType)),
  (Jvm.Cond.initialized "java/util/AbstractList"),
  (Jvm.Cond.methodLink "java/util/ArrayList" (1 : Nat) ({ cls := "java/util/AbstractList", name := "<init>", desc := "()V" } : Jvm.MethodName)),
  (Jvm.Cond.instanceMethod ({ cls := "java/util/AbstractList", name := "<init>", desc := "()V" } : Jvm.MethodName)),
  (Jvm.Cond.code ({ cls := "java/util/ArrayList", name := "<init>", desc := "()V" } : Jvm.MethodName) prog_30_method_2_code (1 : Nat) (Option.none : Option Jvm.ClassFile.FieldType)),
  (Jvm.Cond.methodLink "CommandHouse$Words" (27 : Nat) ({ cls := "java/util/ArrayList", name := "<init>", desc := "()V" } : Jvm.MethodName))]
def wL9 : List Cond := [(Jvm.Cond.instanceMethod ({ cls := "java/util/ArrayList", name := "<init>", desc := "()V" } : Jvm.MethodName)),
  (Jvm.Cond.methodLinkNest "CommandHouse$Words" (38 : Nat) ({ cls := "CommandHouse$Bytes", name := "<init>", desc := "(ILCommandHouse$Bytes;)V" } : Jvm.MethodName) "CommandHouse"),
  (Jvm.Cond.code ({ cls := "CommandHouse$Words", name := "<init>", desc := "(LCommandHouse$Book;)V" } : Jvm.MethodName) prog_13_method_1_code (2 : Nat) (Option.none : Option Jvm.ClassFile.FieldType)),
  (Jvm.Cond.methodLinkNest "CommandHouse" (22 : Nat) ({ cls := "CommandHouse$Words", name := "<init>", desc := "(LCommandHouse$Book;)V" } : Jvm.MethodName) "CommandHouse"),
  (Jvm.Cond.instanceMethod ({ cls := "CommandHouse$Words", name := "<init>", desc := "(LCommandHouse$Book;)V" } : Jvm.MethodName)),
  (Jvm.Cond.code ({ cls := "CommandHouse$Builtins", name := "<init>", desc := "(LCommandHouse$Book;)V" } : Jvm.MethodName) prog_4_method_1_code (2 : Nat) (Option.none : Option Jvm.ClassFile.FieldType)),
  (Jvm.Cond.methodLinkNest "CommandHouse" (27 : Nat) ({ cls := "CommandHouse$Builtins", name := "<init>", desc := "(LCommandHouse$Book;)V" } : Jvm.MethodName) "CommandHouse"),
  (Jvm.Cond.instanceMethod ({ cls := "CommandHouse$Builtins", name := "<init>", desc := "(LCommandHouse$Book;)V" } : Jvm.MethodName)),
  (Jvm.Cond.methodLink "CommandHouse$Machine" (11 : Nat) ({ cls := "java/util/ArrayList", name := "<init>", desc := "()V" } : Jvm.MethodName)),
  (Jvm.Cond.code ({ cls := "CommandHouse$State", name := "<init>", desc := "()V" } : Jvm.MethodName) prog_12_method_1_code (1 : Nat) (Option.none : Option Jvm.ClassFile.FieldType)),
  (Jvm.Cond.methodLinkNest "CommandHouse$Machine" (20 : Nat) ({ cls := "CommandHouse$State", name := "<init>", desc := "()V" } : Jvm.MethodName) "CommandHouse"),
  (Jvm.Cond.instanceMethod ({ cls := "CommandHouse$State", name := "<init>", desc := "()V" } : Jvm.MethodName)),
  (Jvm.Cond.code ({ cls := "CommandHouse$Input", name := "begin", desc := "(LCommandHouse$Bytes;)V" } : Jvm.MethodName) prog_8_method_2_code (2 : Nat) (Option.none : Option Jvm.ClassFile.FieldType)),
  (Jvm.Cond.methodLink "CommandHouse$Input" (7 : Nat) ({ cls := "CommandHouse$Input", name := "begin", desc := "(LCommandHouse$Bytes;)V" } : Jvm.MethodName)),
  (Jvm.Cond.instanceMethod ({ cls := "CommandHouse$Input", name := "begin", desc := "(LCommandHouse$Bytes;)V" } : Jvm.MethodName)),
  (Jvm.Cond.code ({ cls := "CommandHouse$Input", name := "<init>", desc := "(LCommandHouse$Bytes;)V" } : Jvm.MethodName) prog_8_method_1_code (2 : Nat) (Option.none : Option Jvm.ClassFile.FieldType)),
  (Jvm.Cond.methodLinkNest "CommandHouse$Machine" (62 : Nat) ({ cls := "CommandHouse$Input", name := "<init>", desc := "(LCommandHouse$Bytes;)V" } : Jvm.MethodName) "CommandHouse"),
  (Jvm.Cond.instanceMethod ({ cls := "CommandHouse$Input", name := "<init>", desc := "(LCommandHouse$Bytes;)V" } : Jvm.MethodName)),
  (Jvm.Cond.code ({ cls := "CommandHouse$Script", name := "<init>", desc := "(LCommandHouse$Bytes;Z)V" } : Jvm.MethodName) prog_11_method_1_code (3 : Nat) (Option.none : Option Jvm.ClassFile.FieldType)),
  (Jvm.Cond.methodLinkNest "CommandHouse$Machine" (71 : Nat) ({ cls := "CommandHouse$Script", name := "<init>", desc := "(LCommandHouse$Bytes;Z)V" } : Jvm.MethodName) "CommandHouse")]
def wL10 : List Cond := [(Jvm.Cond.instanceMethod ({ cls := "CommandHouse$Script", name := "<init>", desc := "(LCommandHouse$Bytes;Z)V" } : Jvm.MethodName)),
  (Jvm.Cond.code ({ cls := "CommandHouse$Frame", name := "<init>", desc := "()V" } : Jvm.MethodName) prog_7_method_1_code (1 : Nat) (Option.none : Option Jvm.ClassFile.FieldType)),
  (Jvm.Cond.methodLinkNest "CommandHouse$Machine" (80 : Nat) ({ cls := "CommandHouse$Frame", name := "<init>", desc := "()V" } : Jvm.MethodName) "CommandHouse"),
  (Jvm.Cond.instanceMethod ({ cls := "CommandHouse$Frame", name := "<init>", desc := "()V" } : Jvm.MethodName)),
  (Jvm.Cond.code ({ cls := "java/util/ArrayList", name := "grow", desc := "(I)[Ljava/lang/Object;" } : Jvm.MethodName) prog_30_method_6_code (4 : Nat) (Option.some (Jvm.ClassFile.FieldType.array (Jvm.ClassFile.FieldType.object "java/lang/Object")))),
  (Jvm.Cond.methodLink "java/util/ArrayList" (69 : Nat) ({ cls := "java/util/ArrayList", name := "grow", desc := "(I)[Ljava/lang/Object;" } : Jvm.MethodName)),
  (Jvm.Cond.instanceMethod ({ cls := "java/util/ArrayList", name := "grow", desc := "(I)[Ljava/lang/Object;" } : Jvm.MethodName)),
  (Jvm.Cond.code ({ cls := "java/util/ArrayList", name := "grow", desc := "()[Ljava/lang/Object;" } : Jvm.MethodName) prog_30_method_7_code (1 : Nat) (Option.some (Jvm.ClassFile.FieldType.array (Jvm.ClassFile.FieldType.object "java/lang/Object")))),
  (Jvm.Cond.methodLink "java/util/ArrayList" (129 : Nat) ({ cls := "java/util/ArrayList", name := "grow", desc := "()[Ljava/lang/Object;" } : Jvm.MethodName)),
  (Jvm.Cond.instanceMethod ({ cls := "java/util/ArrayList", name := "grow", desc := "()[Ljava/lang/Object;" } : Jvm.MethodName)),
  (Jvm.Cond.code ({ cls := "java/util/ArrayList", name := "add", desc := "(Ljava/lang/Object;[Ljava/lang/Object;I)V" } : Jvm.MethodName) prog_30_method_24_code (4 : Nat) (Option.none : Option Jvm.ClassFile.FieldType)),
  (Jvm.Cond.methodLink "java/util/ArrayList" (131 : Nat) ({ cls := "java/util/ArrayList", name := "add", desc := "(Ljava/lang/Object;[Ljava/lang/Object;I)V" } : Jvm.MethodName)),
  (Jvm.Cond.instanceMethod ({ cls := "java/util/ArrayList", name := "add", desc := "(Ljava/lang/Object;[Ljava/lang/Object;I)V" } : Jvm.MethodName)),
  (Jvm.Cond.code ({ cls := "java/util/ArrayList", name := "add", desc := "(Ljava/lang/Object;)Z" } : Jvm.MethodName) prog_30_method_25_code (2 : Nat) (Option.some Jvm.ClassFile.FieldType.boolean)),
  (Jvm.Cond.methodLink "CommandHouse$Machine" (81 : Nat) ({ cls := "java/util/ArrayList", name := "add", desc := "(Ljava/lang/Object;)Z" } : Jvm.MethodName)),
  (Jvm.Cond.instanceMethod ({ cls := "java/util/ArrayList", name := "add", desc := "(Ljava/lang/Object;)Z" } : Jvm.MethodName)),
  (Jvm.Cond.selects "java/util/ArrayList" ({ cls := "java/util/ArrayList", name := "add", desc := "(Ljava/lang/Object;)Z" } : Jvm.MethodName) ({ cls := "java/util/ArrayList", name := "add", desc := "(Ljava/lang/Object;)Z" } : Jvm.MethodName)),
  (Jvm.Cond.code ({ cls := "CommandHouse$Machine", name := "<init>", desc := "(LCommandHouse$Book;LCommandHouse$Words;LCommandHouse$Builtins;)V" } : Jvm.MethodName) prog_9_method_1_code (4 : Nat) (Option.none : Option Jvm.ClassFile.FieldType)),
  (Jvm.Cond.methodLinkNest "CommandHouse" (30 : Nat) ({ cls := "CommandHouse$Machine", name := "<init>", desc := "(LCommandHouse$Book;LCommandHouse$Words;LCommandHouse$Builtins;)V" } : Jvm.MethodName) "CommandHouse"),
  (Jvm.Cond.instanceMethod ({ cls := "CommandHouse$Machine", name := "<init>", desc := "(LCommandHouse$Book;LCommandHouse$Words;LCommandHouse$Builtins;)V" } : Jvm.MethodName))]
def wL11 : List Cond := [(Jvm.Cond.methodLinkNest "CommandHouse" (41 : Nat) ({ cls := "CommandHouse$Bytes", name := "<init>", desc := "([BII)V" } : Jvm.MethodName) "CommandHouse"),
  (Jvm.Cond.code ({ cls := "CommandHouse", name := "<init>", desc := "()V" } : Jvm.MethodName) prog_1_method_1_code (3 : Nat) (Option.none : Option Jvm.ClassFile.FieldType)),
  (Jvm.Cond.methodLink "CommandHouseLaw" (9 : Nat) ({ cls := "CommandHouse", name := "<init>", desc := "()V" } : Jvm.MethodName)),
  (Jvm.Cond.instanceMethod ({ cls := "CommandHouse", name := "<init>", desc := "()V" } : Jvm.MethodName)),
  (Jvm.Cond.classLink "CommandHouseLaw" (10 : Nat) "CommandHouseModel"),
  (Jvm.Cond.instantiable "CommandHouseModel" (89 : Nat)),
  (Jvm.Cond.initialized "CommandHouseModel"),
  (Jvm.Cond.methodLink "CommandHouseModel" (1 : Nat) ({ cls := "java/lang/Object", name := "<init>", desc := "()V" } : Jvm.MethodName)),
  (Jvm.Cond.fieldLink "CommandHouseModel" (7 : Nat) "CommandHouseModel" "tape" "[I"),
  (Jvm.Cond.fieldLink "CommandHouseModel" (13 : Nat) "CommandHouseModel" "given" "[I"),
  (Jvm.Cond.fieldLink "CommandHouseModel" (16 : Nat) "CommandHouseModel" "out" "[I"),
  (Jvm.Cond.fieldLink "CommandHouseModel" (19 : Nat) "CommandHouseModel" "diagnostic" "[I"),
  (Jvm.Cond.fieldLink "CommandHouseModel" (22 : Nat) "CommandHouseModel" "wrongPlace" "I"),
  (Jvm.Cond.constant "CommandHouseModel" (26 : Nat) (160000 : Int32)),
  (Jvm.Cond.fieldLink "CommandHouseModel" (27 : Nat) "CommandHouseModel" "script" "[I"),
  (Jvm.Cond.fieldLink "CommandHouseModel" (30 : Nat) "CommandHouseModel" "hereFrom" "[I"),
  (Jvm.Cond.fieldLink "CommandHouseModel" (33 : Nat) "CommandHouseModel" "hereTo" "[I"),
  (Jvm.Cond.constant "CommandHouseModel" (36 : Nat) (52000 : Int32)),
  (Jvm.Cond.fieldLink "CommandHouseModel" (37 : Nat) "CommandHouseModel" "waiting" "[I"),
  (Jvm.Cond.fieldLink "CommandHouseModel" (40 : Nat) "CommandHouseModel" "waitingMark" "[I")]
def wL12 : List Cond := [(Jvm.Cond.fieldLink "CommandHouseModel" (43 : Nat) "CommandHouseModel" "waitingEnd" "[I"),
  (Jvm.Cond.constant "CommandHouseModel" (46 : Nat) (400000 : Int32)),
  (Jvm.Cond.fieldLink "CommandHouseModel" (47 : Nat) "CommandHouseModel" "texts" "[I"),
  (Jvm.Cond.fieldLink "CommandHouseModel" (50 : Nat) "CommandHouseModel" "nameAt" "[I"),
  (Jvm.Cond.fieldLink "CommandHouseModel" (53 : Nat) "CommandHouseModel" "nameLong" "[I"),
  (Jvm.Cond.fieldLink "CommandHouseModel" (56 : Nat) "CommandHouseModel" "valueAt" "[I"),
  (Jvm.Cond.fieldLink "CommandHouseModel" (59 : Nat) "CommandHouseModel" "valueLong" "[I"),
  (Jvm.Cond.fieldLink "CommandHouseModel" (62 : Nat) "CommandHouseModel" "parameterAt" "[I"),
  (Jvm.Cond.fieldLink "CommandHouseModel" (65 : Nat) "CommandHouseModel" "parameterLong" "[I"),
  (Jvm.Cond.fieldLink "CommandHouseModel" (68 : Nat) "CommandHouseModel" "functionAt" "[I"),
  (Jvm.Cond.fieldLink "CommandHouseModel" (71 : Nat) "CommandHouseModel" "functionLong" "[I"),
  (Jvm.Cond.fieldLink "CommandHouseModel" (74 : Nat) "CommandHouseModel" "functionBody" "[I"),
  (Jvm.Cond.fieldLink "CommandHouseModel" (77 : Nat) "CommandHouseModel" "functionEnd" "[I"),
  (Jvm.Cond.constant "CommandHouseModel" (80 : Nat) (60000 : Int32)),
  (Jvm.Cond.fieldLink "CommandHouseModel" (81 : Nat) "CommandHouseModel" "saved" "[I"),
  (Jvm.Cond.constant "CommandHouseModel" (84 : Nat) (40020 : Int32)),
  (Jvm.Cond.fieldLink "CommandHouseModel" (85 : Nat) "CommandHouseModel" "fileName" "[I"),
  (Jvm.Cond.fieldLink "CommandHouseModel" (88 : Nat) "CommandHouseModel" "fileNameLong" "[I"),
  (Jvm.Cond.fieldLink "CommandHouseModel" (91 : Nat) "CommandHouseModel" "file" "[I"),
  (Jvm.Cond.fieldLink "CommandHouseModel" (94 : Nat) "CommandHouseModel" "fileLong" "[I")]
def wL13 : List Cond := [(Jvm.Cond.fieldLink "CommandHouseModel" (97 : Nat) "CommandHouseModel" "wrong" "I"),
  (Jvm.Cond.fieldLink "CommandHouseModel" (100 : Nat) "CommandHouseModel" "behind" "[I"),
  (Jvm.Cond.fieldLink "CommandHouseModel" (103 : Nat) "CommandHouseModel" "kept" "[I"),
  (Jvm.Cond.fieldLink "CommandHouseModel" (106 : Nat) "CommandHouseModel" "caughtBytes" "[I"),
  (Jvm.Cond.fieldLink "CommandHouseModel" (109 : Nat) "CommandHouseModel" "caughtMany" "[I"),
  (Jvm.Cond.fieldLink "CommandHouseModel" (112 : Nat) "CommandHouseModel" "inputFile" "[I"),
  (Jvm.Cond.fieldLink "CommandHouseModel" (115 : Nat) "CommandHouseModel" "inputAt" "[I"),
  (Jvm.Cond.fieldLink "CommandHouseModel" (118 : Nat) "CommandHouseModel" "inputTo" "[I"),
  (Jvm.Cond.arrayClass Jvm.ClassFile.FieldType.boolean),
  (Jvm.Cond.fieldLink "CommandHouseModel" (121 : Nat) "CommandHouseModel" "nameInTexts" "[Z"),
  (Jvm.Cond.constant "CommandHouseModel" (125 : Nat) (200000 : Int32)),
  (Jvm.Cond.fieldLink "CommandHouseModel" (126 : Nat) "CommandHouseModel" "made" "[I"),
  (Jvm.Cond.fieldLink "CommandHouseModel" (129 : Nat) "CommandHouseModel" "fieldAt" "[I"),
  (Jvm.Cond.fieldLink "CommandHouseModel" (132 : Nat) "CommandHouseModel" "fieldLong" "[I"),
  (Jvm.Cond.code ({ cls := "CommandHouseModel", name := "<init>", desc := "()V" } : Jvm.MethodName) prog_15_method_1_code (1 : Nat) (Option.none : Option Jvm.ClassFile.FieldType)),
  (Jvm.Cond.methodLink "CommandHouseLaw" (12 : Nat) ({ cls := "CommandHouseModel", name := "<init>", desc := "()V" } : Jvm.MethodName)),
  (Jvm.Cond.instanceMethod ({ cls := "CommandHouseModel", name := "<init>", desc := "()V" } : Jvm.MethodName)),
  (Jvm.Cond.fieldLink "CommandHouse" (48 : Nat) "CommandHouse" "taped" "I"),
  (Jvm.Cond.code ({ cls := "CommandHouse", name := "lay", desc := "(I)V" } : Jvm.MethodName) prog_1_method_13_code (3 : Nat) (Option.none : Option Jvm.ClassFile.FieldType)),
  (Jvm.Cond.methodLink "CommandHouse" (52 : Nat) ({ cls := "CommandHouse", name := "lay", desc := "(I)V" } : Jvm.MethodName))]
def wL14 : List Cond := [(Jvm.Cond.instanceMethod ({ cls := "CommandHouse", name := "lay", desc := "(I)V" } : Jvm.MethodName)),
  (Jvm.Cond.code ({ cls := "CommandHouse", name := "feed", desc := "(IIIII)I" } : Jvm.MethodName) prog_1_method_2_code (6 : Nat) (Option.some Jvm.ClassFile.FieldType.int)),
  (Jvm.Cond.methodLink "CommandHouseLaw" (13 : Nat) ({ cls := "CommandHouse", name := "feed", desc := "(IIIII)I" } : Jvm.MethodName)),
  (Jvm.Cond.instanceMethod ({ cls := "CommandHouse", name := "feed", desc := "(IIIII)I" } : Jvm.MethodName)),
  (Jvm.Cond.selects "CommandHouse" ({ cls := "CommandHouse", name := "feed", desc := "(IIIII)I" } : Jvm.MethodName) ({ cls := "CommandHouse", name := "feed", desc := "(IIIII)I" } : Jvm.MethodName)),
  (Jvm.Cond.fieldLink "CommandHouseModel" (828 : Nat) "CommandHouseModel" "taped" "I"),
  (Jvm.Cond.code ({ cls := "CommandHouseModel", name := "feed", desc := "(IIIII)I" } : Jvm.MethodName) prog_15_method_168_code (8 : Nat) (Option.some Jvm.ClassFile.FieldType.int)),
  (Jvm.Cond.methodLink "CommandHouseLaw" (17 : Nat) ({ cls := "CommandHouseModel", name := "feed", desc := "(IIIII)I" } : Jvm.MethodName)),
  (Jvm.Cond.instanceMethod ({ cls := "CommandHouseModel", name := "feed", desc := "(IIIII)I" } : Jvm.MethodName)),
  (Jvm.Cond.selects "CommandHouseModel" ({ cls := "CommandHouseModel", name := "feed", desc := "(IIIII)I" } : Jvm.MethodName) ({ cls := "CommandHouseModel", name := "feed", desc := "(IIIII)I" } : Jvm.MethodName)),
  (Jvm.Cond.code ({ cls := "CommandHouse", name := "end", desc := "(I)I" } : Jvm.MethodName) prog_1_method_3_code (2 : Nat) (Option.some Jvm.ClassFile.FieldType.int)),
  (Jvm.Cond.methodLink "CommandHouseLaw" (18 : Nat) ({ cls := "CommandHouse", name := "end", desc := "(I)I" } : Jvm.MethodName)),
  (Jvm.Cond.instanceMethod ({ cls := "CommandHouse", name := "end", desc := "(I)I" } : Jvm.MethodName)),
  (Jvm.Cond.selects "CommandHouse" ({ cls := "CommandHouse", name := "end", desc := "(I)I" } : Jvm.MethodName) ({ cls := "CommandHouse", name := "end", desc := "(I)I" } : Jvm.MethodName)),
  (Jvm.Cond.code ({ cls := "CommandHouseModel", name := "isIn", desc := "(III)Z" } : Jvm.MethodName) prog_15_method_2_code (3 : Nat) (Option.some Jvm.ClassFile.FieldType.boolean)),
  (Jvm.Cond.methodLink "CommandHouseModel" (139 : Nat) ({ cls := "CommandHouseModel", name := "isIn", desc := "(III)Z" } : Jvm.MethodName)),
  (Jvm.Cond.static ({ cls := "CommandHouseModel", name := "isIn", desc := "(III)Z" } : Jvm.MethodName)),
  (Jvm.Cond.code ({ cls := "CommandHouseModel", name := "end", desc := "(I)I" } : Jvm.MethodName) prog_15_method_169_code (2 : Nat) (Option.some Jvm.ClassFile.FieldType.int)),
  (Jvm.Cond.methodLink "CommandHouseLaw" (22 : Nat) ({ cls := "CommandHouseModel", name := "end", desc := "(I)I" } : Jvm.MethodName)),
  (Jvm.Cond.instanceMethod ({ cls := "CommandHouseModel", name := "end", desc := "(I)I" } : Jvm.MethodName))]
def wL15 : List Cond := [(Jvm.Cond.selects "CommandHouseModel" ({ cls := "CommandHouseModel", name := "end", desc := "(I)I" } : Jvm.MethodName) ({ cls := "CommandHouseModel", name := "end", desc := "(I)I" } : Jvm.MethodName)),
  (Jvm.Cond.fieldLinkNest "CommandHouse" (56 : Nat) "CommandHouse$Bytes" "n" "I" "CommandHouse"),
  (Jvm.Cond.code ({ cls := "CommandHouse", name := "input", desc := "()I" } : Jvm.MethodName) prog_1_method_4_code (1 : Nat) (Option.some Jvm.ClassFile.FieldType.int)),
  (Jvm.Cond.methodLink "CommandHouseLaw" (23 : Nat) ({ cls := "CommandHouse", name := "input", desc := "()I" } : Jvm.MethodName)),
  (Jvm.Cond.instanceMethod ({ cls := "CommandHouse", name := "input", desc := "()I" } : Jvm.MethodName)),
  (Jvm.Cond.selects "CommandHouse" ({ cls := "CommandHouse", name := "input", desc := "()I" } : Jvm.MethodName) ({ cls := "CommandHouse", name := "input", desc := "()I" } : Jvm.MethodName)),
  (Jvm.Cond.fieldLink "CommandHouseModel" (831 : Nat) "CommandHouseModel" "givenMany" "I"),
  (Jvm.Cond.code ({ cls := "CommandHouseModel", name := "input", desc := "()I" } : Jvm.MethodName) prog_15_method_170_code (2 : Nat) (Option.some Jvm.ClassFile.FieldType.int)),
  (Jvm.Cond.methodLink "CommandHouseLaw" (27 : Nat) ({ cls := "CommandHouseModel", name := "input", desc := "()I" } : Jvm.MethodName)),
  (Jvm.Cond.instanceMethod ({ cls := "CommandHouseModel", name := "input", desc := "()I" } : Jvm.MethodName)),
  (Jvm.Cond.selects "CommandHouseModel" ({ cls := "CommandHouseModel", name := "input", desc := "()I" } : Jvm.MethodName) ({ cls := "CommandHouseModel", name := "input", desc := "()I" } : Jvm.MethodName)),
  (Jvm.Cond.classLink "CommandHouse" (59 : Nat) "CommandHouse$Input"),
  (Jvm.Cond.fieldLink "CommandHouse$Book" (38 : Nat) "CommandHouse$Book" "flow" "I"),
  (Jvm.Cond.fieldLink "CommandHouse$Book" (42 : Nat) "CommandHouse$Book" "limit" "I"),
  (Jvm.Cond.fieldLink "CommandHouse$Book" (45 : Nat) "CommandHouse$Book" "ran" "I"),
  (Jvm.Cond.fieldLink "CommandHouse$Book" (48 : Nat) "CommandHouse$Book" "latest" "I"),
  (Jvm.Cond.fieldLink "CommandHouse$Book" (51 : Nat) "CommandHouse$Book" "told" "I"),
  (Jvm.Cond.fieldLinkNest "CommandHouse$Book" (54 : Nat) "CommandHouse$Bytes" "n" "I" "CommandHouse"),
  (Jvm.Cond.fieldLink "CommandHouse$Words" (55 : Nat) "CommandHouse$Words" "taken" "I"),
  (Jvm.Cond.fieldLink "CommandHouse$State" (45 : Nat) "CommandHouse$State" "variables" "I")]
def wL16 : List Cond := [(Jvm.Cond.fieldLink "CommandHouse$State" (75 : Nat) "CommandHouse$State" "shifted" "I"),
  (Jvm.Cond.fieldLink "CommandHouse$State" (53 : Nat) "CommandHouse$State" "functions" "I"),
  (Jvm.Cond.fieldLink "CommandHouse$State" (56 : Nat) "CommandHouse$State" "unsetFails" "Z"),
  (Jvm.Cond.fieldLink "CommandHouse$State" (60 : Nat) "CommandHouse$State" "namesStay" "Z"),
  (Jvm.Cond.fieldLink "CommandHouse$State" (63 : Nat) "CommandHouse$State" "status" "I"),
  (Jvm.Cond.fieldLink "CommandHouse$Machine" (95 : Nat) "CommandHouse$Machine" "pc" "I"),
  (Jvm.Cond.fieldLink "CommandHouse$Machine" (98 : Nat) "CommandHouse$Machine" "level" "I"),
  (Jvm.Cond.fieldLink "CommandHouse$Machine" (101 : Nat) "CommandHouse$Machine" "depth" "I"),
  (Jvm.Cond.fieldLinkNest "CommandHouse$Machine" (123 : Nat) "CommandHouse$Frame" "kind" "I" "CommandHouse"),
  (Jvm.Cond.fieldLinkNest "CommandHouse$Machine" (126 : Nat) "CommandHouse$Frame" "script" "LCommandHouse$Script;" "CommandHouse"),
  (Jvm.Cond.fieldLinkNest "CommandHouse$Machine" (127 : Nat) "CommandHouse$Frame" "pc" "I" "CommandHouse"),
  (Jvm.Cond.fieldLinkNest "CommandHouse$Machine" (128 : Nat) "CommandHouse$Frame" "in" "LCommandHouse$Input;" "CommandHouse"),
  (Jvm.Cond.fieldLinkNest "CommandHouse$Machine" (129 : Nat) "CommandHouse$Frame" "out" "LCommandHouse$Bytes;" "CommandHouse"),
  (Jvm.Cond.fieldLinkNest "CommandHouse$Machine" (130 : Nat) "CommandHouse$Frame" "level" "I" "CommandHouse"),
  (Jvm.Cond.fieldLinkNest "CommandHouse$Machine" (131 : Nat) "CommandHouse$Frame" "keeps" "Z" "CommandHouse"),
  (Jvm.Cond.fieldLinkNest "CommandHouse$Machine" (135 : Nat) "CommandHouse$Frame" "made" "LCommandHouse$Bytes;" "CommandHouse"),
  (Jvm.Cond.fieldLinkNest "CommandHouse$Machine" (108 : Nat) "CommandHouse$Bytes" "n" "I" "CommandHouse"),
  (Jvm.Cond.constant "CommandHouse$Book" (57 : Nat) (150000 : Int32)),
  (Jvm.Cond.fieldLink "CommandHouse$Book" (58 : Nat) "CommandHouse$Book" "work" "I"),
  (Jvm.Cond.constantLong "CommandHouse$Machine" (200 : Nat) (1125899906842624 : Int64))]
def wL17 : List Cond := [(Jvm.Cond.fieldLinkNest "CommandHouse$Machine" (169 : Nat) "CommandHouse$Book" "flow" "I" "CommandHouse"),
  (Jvm.Cond.fieldLink "CommandHouse$Script" (53 : Nat) "CommandHouse$Script" "length" "I"),
  (Jvm.Cond.fieldLinkNest "CommandHouse$Machine" (184 : Nat) "CommandHouse$Script" "began" "Z" "CommandHouse"),
  (Jvm.Cond.fieldLink "CommandHouse$Script" (81 : Nat) "CommandHouse$Script" "pos" "I"),
  (Jvm.Cond.fieldLink "CommandHouse$Script" (59 : Nat) "CommandHouse$Script" "from" "I"),
  (Jvm.Cond.fieldLink "CommandHouse$Script" (50 : Nat) "CommandHouse$Script" "kind" "I"),
  (Jvm.Cond.fieldLink "CommandHouse$Script" (88 : Nat) "CommandHouse$Script" "to" "I"),
  (Jvm.Cond.fieldLink "CommandHouse$Script" (116 : Nat) "CommandHouse$Script" "waiting" "[I"),
  (Jvm.Cond.fieldLink "CommandHouse$Script" (119 : Nat) "CommandHouse$Script" "waits" "I"),
  (Jvm.Cond.fieldLinkNest "CommandHouse$Machine" (190 : Nat) "CommandHouse$Script" "wrongAt" "I" "CommandHouse"),
  (Jvm.Cond.fieldLinkNest "CommandHouse$Machine" (172 : Nat) "CommandHouse$State" "status" "I" "CommandHouse"),
  (Jvm.Cond.methodLink "CommandHouse$Machine" (138 : Nat) ({ cls := "java/lang/Math", name := "min", desc := "(II)I" } : Jvm.MethodName)),
  (Jvm.Cond.methodLink "CommandHouse$Machine" (144 : Nat) ({ cls := "java/lang/Math", name := "max", desc := "(II)I" } : Jvm.MethodName)),
  (Jvm.Cond.fieldLinkNest "CommandHouse" (71 : Nat) "CommandHouse$Book" "flow" "I" "CommandHouse"),
  (Jvm.Cond.fieldLinkNest "CommandHouse" (77 : Nat) "CommandHouse$Machine" "state" "LCommandHouse$State;" "CommandHouse"),
  (Jvm.Cond.fieldLinkNest "CommandHouse" (81 : Nat) "CommandHouse$State" "status" "I" "CommandHouse"),
  (Jvm.Cond.methodLinkNest "CommandHouse" (61 : Nat) ({ cls := "CommandHouse$Input", name := "<init>", desc := "(LCommandHouse$Bytes;)V" } : Jvm.MethodName) "CommandHouse"),
  (Jvm.Cond.code ({ cls := "CommandHouse$Book", name := "begin", desc := "()V" } : Jvm.MethodName) prog_2_method_2_code (1 : Nat) (Option.none : Option Jvm.ClassFile.FieldType)),
  (Jvm.Cond.methodLinkNest "CommandHouse$Machine" (85 : Nat) ({ cls := "CommandHouse$Book", name := "begin", desc := "()V" } : Jvm.MethodName) "CommandHouse"),
  (Jvm.Cond.instanceMethod ({ cls := "CommandHouse$Book", name := "begin", desc := "()V" } : Jvm.MethodName))]
def wL18 : List Cond := [(Jvm.Cond.code ({ cls := "CommandHouse$Words", name := "begin", desc := "()V" } : Jvm.MethodName) prog_13_method_2_code (1 : Nat) (Option.none : Option Jvm.ClassFile.FieldType)),
  (Jvm.Cond.methodLinkNest "CommandHouse$Machine" (88 : Nat) ({ cls := "CommandHouse$Words", name := "begin", desc := "()V" } : Jvm.MethodName) "CommandHouse"),
  (Jvm.Cond.instanceMethod ({ cls := "CommandHouse$Words", name := "begin", desc := "()V" } : Jvm.MethodName)),
  (Jvm.Cond.code ({ cls := "CommandHouse$State", name := "setParameters", desc := "([LCommandHouse$Bytes;I)V" } : Jvm.MethodName) prog_12_method_6_code (3 : Nat) (Option.none : Option Jvm.ClassFile.FieldType)),
  (Jvm.Cond.methodLink "CommandHouse$State" (49 : Nat) ({ cls := "CommandHouse$State", name := "setParameters", desc := "([LCommandHouse$Bytes;I)V" } : Jvm.MethodName)),
  (Jvm.Cond.instanceMethod ({ cls := "CommandHouse$State", name := "setParameters", desc := "([LCommandHouse$Bytes;I)V" } : Jvm.MethodName)),
  (Jvm.Cond.code ({ cls := "CommandHouse$State", name := "clear", desc := "([LCommandHouse$Bytes;)V" } : Jvm.MethodName) prog_12_method_2_code (2 : Nat) (Option.none : Option Jvm.ClassFile.FieldType)),
  (Jvm.Cond.methodLinkNest "CommandHouse$Machine" (91 : Nat) ({ cls := "CommandHouse$State", name := "clear", desc := "([LCommandHouse$Bytes;)V" } : Jvm.MethodName) "CommandHouse"),
  (Jvm.Cond.instanceMethod ({ cls := "CommandHouse$State", name := "clear", desc := "([LCommandHouse$Bytes;)V" } : Jvm.MethodName)),
  (Jvm.Cond.code ({ cls := "java/util/ArrayList", name := "size", desc := "()I" } : Jvm.MethodName) prog_30_method_8_code (1 : Nat) (Option.some Jvm.ClassFile.FieldType.int)),
  (Jvm.Cond.methodLink "CommandHouse$Machine" (115 : Nat) ({ cls := "java/util/ArrayList", name := "size", desc := "()I" } : Jvm.MethodName)),
  (Jvm.Cond.instanceMethod ({ cls := "java/util/ArrayList", name := "size", desc := "()I" } : Jvm.MethodName)),
  (Jvm.Cond.selects "java/util/ArrayList" ({ cls := "java/util/ArrayList", name := "size", desc := "()I" } : Jvm.MethodName) ({ cls := "java/util/ArrayList", name := "size", desc := "()I" } : Jvm.MethodName)),
  (Jvm.Cond.code ({ cls := "jdk/internal/util/Preconditions", name := "checkIndex", desc := "(IILjava/util/function/BiFunction;)I" } : Jvm.MethodName) prog_38_method_11_code (3 : Nat) (Option.some Jvm.ClassFile.FieldType.int)),
  (Jvm.Cond.initialized "jdk/internal/util/Preconditions"),
  (Jvm.Cond.methodLink "java/util/Objects" (105 : Nat) ({ cls := "jdk/internal/util/Preconditions", name := "checkIndex", desc := "(IILjava/util/function/BiFunction;)I" } : Jvm.MethodName)),
  (Jvm.Cond.static ({ cls := "jdk/internal/util/Preconditions", name := "checkIndex", desc := "(IILjava/util/function/BiFunction;)I" } : Jvm.MethodName)),
  (Jvm.Cond.code ({ cls := "java/util/Objects", name := "checkIndex", desc := "(II)I" } : Jvm.MethodName) prog_34_method_17_code (2 : Nat) (Option.some Jvm.ClassFile.FieldType.int)),
  (Jvm.Cond.initialized "java/util/Objects"),
  (Jvm.Cond.methodLink "java/util/ArrayList" (118 : Nat) ({ cls := "java/util/Objects", name := "checkIndex", desc := "(II)I" } : Jvm.MethodName))]
def wL19 : List Cond := [(Jvm.Cond.static ({ cls := "java/util/Objects", name := "checkIndex", desc := "(II)I" } : Jvm.MethodName)),
  (Jvm.Cond.code ({ cls := "java/util/ArrayList", name := "elementData", desc := "(I)Ljava/lang/Object;" } : Jvm.MethodName) prog_30_method_18_code (2 : Nat) (Option.some (Jvm.ClassFile.FieldType.object "java/lang/Object"))),
  (Jvm.Cond.methodLink "java/util/ArrayList" (123 : Nat) ({ cls := "java/util/ArrayList", name := "elementData", desc := "(I)Ljava/lang/Object;" } : Jvm.MethodName)),
  (Jvm.Cond.instanceMethod ({ cls := "java/util/ArrayList", name := "elementData", desc := "(I)Ljava/lang/Object;" } : Jvm.MethodName)),
  (Jvm.Cond.selects "java/util/ArrayList" ({ cls := "java/util/ArrayList", name := "elementData", desc := "(I)Ljava/lang/Object;" } : Jvm.MethodName) ({ cls := "java/util/ArrayList", name := "elementData", desc := "(I)Ljava/lang/Object;" } : Jvm.MethodName)),
  (Jvm.Cond.code ({ cls := "java/util/ArrayList", name := "get", desc := "(I)Ljava/lang/Object;" } : Jvm.MethodName) prog_30_method_20_code (2 : Nat) (Option.some (Jvm.ClassFile.FieldType.object "java/lang/Object"))),
  (Jvm.Cond.methodLink "CommandHouse$Machine" (119 : Nat) ({ cls := "java/util/ArrayList", name := "get", desc := "(I)Ljava/lang/Object;" } : Jvm.MethodName)),
  (Jvm.Cond.instanceMethod ({ cls := "java/util/ArrayList", name := "get", desc := "(I)Ljava/lang/Object;" } : Jvm.MethodName)),
  (Jvm.Cond.selects "java/util/ArrayList" ({ cls := "java/util/ArrayList", name := "get", desc := "(I)Ljava/lang/Object;" } : Jvm.MethodName) ({ cls := "java/util/ArrayList", name := "get", desc := "(I)Ljava/lang/Object;" } : Jvm.MethodName)),
  (Jvm.Cond.code ({ cls := "CommandHouse$Machine", name := "push", desc := "(I)LCommandHouse$Frame;" } : Jvm.MethodName) prog_9_method_3_code (3 : Nat) (Option.some (Jvm.ClassFile.FieldType.object "CommandHouse$Frame"))),
  (Jvm.Cond.methodLink "CommandHouse$Machine" (104 : Nat) ({ cls := "CommandHouse$Machine", name := "push", desc := "(I)LCommandHouse$Frame;" } : Jvm.MethodName)),
  (Jvm.Cond.instanceMethod ({ cls := "CommandHouse$Machine", name := "push", desc := "(I)LCommandHouse$Frame;" } : Jvm.MethodName)),
  (Jvm.Cond.code ({ cls := "CommandHouse$Book", name := "spend", desc := "(I)Z" } : Jvm.MethodName) prog_2_method_5_code (2 : Nat) (Option.some Jvm.ClassFile.FieldType.boolean)),
  (Jvm.Cond.methodLinkNest "CommandHouse$Machine" (111 : Nat) ({ cls := "CommandHouse$Book", name := "spend", desc := "(I)Z" } : Jvm.MethodName) "CommandHouse"),
  (Jvm.Cond.instanceMethod ({ cls := "CommandHouse$Book", name := "spend", desc := "(I)Z" } : Jvm.MethodName)),
  (Jvm.Cond.code ({ cls := "CommandHouse$Machine", name := "begin", desc := "(LCommandHouse$Bytes;LCommandHouse$Input;)V" } : Jvm.MethodName) prog_9_method_2_code (3 : Nat) (Option.none : Option Jvm.ClassFile.FieldType)),
  (Jvm.Cond.methodLinkNest "CommandHouse" (64 : Nat) ({ cls := "CommandHouse$Machine", name := "begin", desc := "(LCommandHouse$Bytes;LCommandHouse$Input;)V" } : Jvm.MethodName) "CommandHouse"),
  (Jvm.Cond.instanceMethod ({ cls := "CommandHouse$Machine", name := "begin", desc := "(LCommandHouse$Bytes;LCommandHouse$Input;)V" } : Jvm.MethodName)),
  (Jvm.Cond.code ({ cls := "CommandHouse$Script", name := "codeAt", desc := "(I)I" } : Jvm.MethodName) prog_11_method_3_code (2 : Nat) (Option.some Jvm.ClassFile.FieldType.int)),
  (Jvm.Cond.methodLinkNest "CommandHouse$Machine" (205 : Nat) ({ cls := "CommandHouse$Script", name := "codeAt", desc := "(I)I" } : Jvm.MethodName) "CommandHouse")]
def wL20 : List Cond := [(Jvm.Cond.instanceMethod ({ cls := "CommandHouse$Script", name := "codeAt", desc := "(I)I" } : Jvm.MethodName)),
  (Jvm.Cond.code ({ cls := "CommandHouse$Script", name := "isWrong", desc := "()Z" } : Jvm.MethodName) prog_11_method_4_code (1 : Nat) (Option.some Jvm.ClassFile.FieldType.boolean)),
  (Jvm.Cond.methodLink "CommandHouse$Script" (46 : Nat) ({ cls := "CommandHouse$Script", name := "isWrong", desc := "()Z" } : Jvm.MethodName)),
  (Jvm.Cond.instanceMethod ({ cls := "CommandHouse$Script", name := "isWrong", desc := "()Z" } : Jvm.MethodName)),
  (Jvm.Cond.code ({ cls := "CommandHouse$Script", name := "at", desc := "(I)I" } : Jvm.MethodName) prog_11_method_6_code (2 : Nat) (Option.some Jvm.ClassFile.FieldType.int)),
  (Jvm.Cond.methodLink "CommandHouse$Script" (84 : Nat) ({ cls := "CommandHouse$Script", name := "at", desc := "(I)I" } : Jvm.MethodName)),
  (Jvm.Cond.instanceMethod ({ cls := "CommandHouse$Script", name := "at", desc := "(I)I" } : Jvm.MethodName)),
  (Jvm.Cond.code ({ cls := "CommandHouse$Script", name := "passBlanks", desc := "()V" } : Jvm.MethodName) prog_11_method_12_code (2 : Nat) (Option.none : Option Jvm.ClassFile.FieldType)),
  (Jvm.Cond.methodLink "CommandHouse$Script" (78 : Nat) ({ cls := "CommandHouse$Script", name := "passBlanks", desc := "()V" } : Jvm.MethodName)),
  (Jvm.Cond.instanceMethod ({ cls := "CommandHouse$Script", name := "passBlanks", desc := "()V" } : Jvm.MethodName)),
  (Jvm.Cond.code ({ cls := "CommandHouse$Script", name := "takeTexts", desc := "()V" } : Jvm.MethodName) prog_11_method_16_code (9 : Nat) (Option.none : Option Jvm.ClassFile.FieldType)),
  (Jvm.Cond.methodLink "CommandHouse$Script" (91 : Nat) ({ cls := "CommandHouse$Script", name := "takeTexts", desc := "()V" } : Jvm.MethodName)),
  (Jvm.Cond.instanceMethod ({ cls := "CommandHouse$Script", name := "takeTexts", desc := "()V" } : Jvm.MethodName)),
  (Jvm.Cond.code ({ cls := "CommandHouse$Script", name := "advance", desc := "()V" } : Jvm.MethodName) prog_11_method_11_code (2 : Nat) (Option.none : Option Jvm.ClassFile.FieldType)),
  (Jvm.Cond.methodLink "CommandHouse$Script" (40 : Nat) ({ cls := "CommandHouse$Script", name := "advance", desc := "()V" } : Jvm.MethodName)),
  (Jvm.Cond.instanceMethod ({ cls := "CommandHouse$Script", name := "advance", desc := "()V" } : Jvm.MethodName)),
  (Jvm.Cond.code ({ cls := "CommandHouse$Script", name := "skipLines", desc := "()V" } : Jvm.MethodName) prog_11_method_19_code (2 : Nat) (Option.none : Option Jvm.ClassFile.FieldType)),
  (Jvm.Cond.methodLink "CommandHouse$Script" (43 : Nat) ({ cls := "CommandHouse$Script", name := "skipLines", desc := "()V" } : Jvm.MethodName)),
  (Jvm.Cond.instanceMethod ({ cls := "CommandHouse$Script", name := "skipLines", desc := "()V" } : Jvm.MethodName)),
  (Jvm.Cond.code ({ cls := "CommandHouse$Script", name := "next", desc := "()I" } : Jvm.MethodName) prog_11_method_2_code (3 : Nat) (Option.some Jvm.ClassFile.FieldType.int))]
def wL21 : List Cond := [(Jvm.Cond.methodLinkNest "CommandHouse$Machine" (187 : Nat) ({ cls := "CommandHouse$Script", name := "next", desc := "()I" } : Jvm.MethodName) "CommandHouse"),
  (Jvm.Cond.instanceMethod ({ cls := "CommandHouse$Script", name := "next", desc := "()I" } : Jvm.MethodName)),
  (Jvm.Cond.code ({ cls := "CommandHouse$Machine", name := "frameAt", desc := "(I)LCommandHouse$Frame;" } : Jvm.MethodName) prog_9_method_4_code (2 : Nat) (Option.some (Jvm.ClassFile.FieldType.object "CommandHouse$Frame"))),
  (Jvm.Cond.methodLink "CommandHouse$Machine" (147 : Nat) ({ cls := "CommandHouse$Machine", name := "frameAt", desc := "(I)LCommandHouse$Frame;" } : Jvm.MethodName)),
  (Jvm.Cond.instanceMethod ({ cls := "CommandHouse$Machine", name := "frameAt", desc := "(I)LCommandHouse$Frame;" } : Jvm.MethodName)),
  (Jvm.Cond.code ({ cls := "CommandHouse$Machine", name := "top", desc := "()LCommandHouse$Frame;" } : Jvm.MethodName) prog_9_method_5_code (1 : Nat) (Option.some (Jvm.ClassFile.FieldType.object "CommandHouse$Frame"))),
  (Jvm.Cond.methodLink "CommandHouse$Machine" (150 : Nat) ({ cls := "CommandHouse$Machine", name := "top", desc := "()LCommandHouse$Frame;" } : Jvm.MethodName)),
  (Jvm.Cond.instanceMethod ({ cls := "CommandHouse$Machine", name := "top", desc := "()LCommandHouse$Frame;" } : Jvm.MethodName)),
  (Jvm.Cond.code ({ cls := "CommandHouse$Machine", name := "comeBack", desc := "(LCommandHouse$Frame;)V" } : Jvm.MethodName) prog_9_method_7_code (2 : Nat) (Option.none : Option Jvm.ClassFile.FieldType)),
  (Jvm.Cond.methodLink "CommandHouse$Machine" (154 : Nat) ({ cls := "CommandHouse$Machine", name := "comeBack", desc := "(LCommandHouse$Frame;)V" } : Jvm.MethodName)),
  (Jvm.Cond.instanceMethod ({ cls := "CommandHouse$Machine", name := "comeBack", desc := "(LCommandHouse$Frame;)V" } : Jvm.MethodName)),
  (Jvm.Cond.code ({ cls := "CommandHouse$Machine", name := "pop", desc := "()V" } : Jvm.MethodName) prog_9_method_6_code (1 : Nat) (Option.none : Option Jvm.ClassFile.FieldType)),
  (Jvm.Cond.methodLink "CommandHouse$Machine" (181 : Nat) ({ cls := "CommandHouse$Machine", name := "pop", desc := "()V" } : Jvm.MethodName)),
  (Jvm.Cond.instanceMethod ({ cls := "CommandHouse$Machine", name := "pop", desc := "()V" } : Jvm.MethodName)),
  (Jvm.Cond.code ({ cls := "CommandHouse$Machine", name := "proceed", desc := "()V" } : Jvm.MethodName) prog_9_method_12_code (4 : Nat) (Option.none : Option Jvm.ClassFile.FieldType)),
  (Jvm.Cond.methodLink "CommandHouse$Machine" (252 : Nat) ({ cls := "CommandHouse$Machine", name := "proceed", desc := "()V" } : Jvm.MethodName)),
  (Jvm.Cond.instanceMethod ({ cls := "CommandHouse$Machine", name := "proceed", desc := "()V" } : Jvm.MethodName)),
  (Jvm.Cond.code ({ cls := "CommandHouse$Machine", name := "step", desc := "(LCommandHouse$Script;I)V" } : Jvm.MethodName) prog_9_method_18_code (3 : Nat) (Option.none : Option Jvm.ClassFile.FieldType)),
  (Jvm.Cond.methodLink "CommandHouse$Machine" (212 : Nat) ({ cls := "CommandHouse$Machine", name := "step", desc := "(LCommandHouse$Script;I)V" } : Jvm.MethodName)),
  (Jvm.Cond.instanceMethod ({ cls := "CommandHouse$Machine", name := "step", desc := "(LCommandHouse$Script;I)V" } : Jvm.MethodName))]
def wL22 : List Cond := [(Jvm.Cond.code ({ cls := "CommandHouse$Machine", name := "execute", desc := "(I)V" } : Jvm.MethodName) prog_9_method_13_code (4 : Nat) (Option.none : Option Jvm.ClassFile.FieldType)),
  (Jvm.Cond.methodLinkNest "CommandHouse" (68 : Nat) ({ cls := "CommandHouse$Machine", name := "execute", desc := "(I)V" } : Jvm.MethodName) "CommandHouse"),
  (Jvm.Cond.instanceMethod ({ cls := "CommandHouse$Machine", name := "execute", desc := "(I)V" } : Jvm.MethodName)),
  (Jvm.Cond.code ({ cls := "CommandHouse", name := "run", desc := "()I" } : Jvm.MethodName) prog_1_method_5_code (3 : Nat) (Option.some Jvm.ClassFile.FieldType.int)),
  (Jvm.Cond.methodLink "CommandHouseLaw" (28 : Nat) ({ cls := "CommandHouse", name := "run", desc := "()I" } : Jvm.MethodName)),
  (Jvm.Cond.instanceMethod ({ cls := "CommandHouse", name := "run", desc := "()I" } : Jvm.MethodName)),
  (Jvm.Cond.selects "CommandHouse" ({ cls := "CommandHouse", name := "run", desc := "()I" } : Jvm.MethodName) ({ cls := "CommandHouse", name := "run", desc := "()I" } : Jvm.MethodName)),
  (Jvm.Cond.fieldLink "CommandHouseModel" (587 : Nat) "CommandHouseModel" "scripted" "I"),
  (Jvm.Cond.fieldLink "CommandHouseModel" (298 : Nat) "CommandHouseModel" "texted" "I"),
  (Jvm.Cond.fieldLink "CommandHouseModel" (683 : Nat) "CommandHouseModel" "mades" "I"),
  (Jvm.Cond.fieldLink "CommandHouseModel" (385 : Nat) "CommandHouseModel" "fields" "I"),
  (Jvm.Cond.fieldLink "CommandHouseModel" (388 : Nat) "CommandHouseModel" "fieldBase" "I"),
  (Jvm.Cond.fieldLink "CommandHouseModel" (420 : Nat) "CommandHouseModel" "saves" "I"),
  (Jvm.Cond.fieldLink "CommandHouseModel" (262 : Nat) "CommandHouseModel" "keeps" "I"),
  (Jvm.Cond.fieldLink "CommandHouseModel" (286 : Nat) "CommandHouseModel" "inputs" "I"),
  (Jvm.Cond.fieldLink "CommandHouseModel" (499 : Nat) "CommandHouseModel" "caught" "I"),
  (Jvm.Cond.fieldLink "CommandHouseModel" (529 : Nat) "CommandHouseModel" "variables" "I"),
  (Jvm.Cond.fieldLink "CommandHouseModel" (395 : Nat) "CommandHouseModel" "parameters" "I"),
  (Jvm.Cond.fieldLink "CommandHouseModel" (551 : Nat) "CommandHouseModel" "functions" "I"),
  (Jvm.Cond.fieldLink "CommandHouseModel" (572 : Nat) "CommandHouseModel" "unsetFails" "Z")]
def wL23 : List Cond := [(Jvm.Cond.fieldLink "CommandHouseModel" (575 : Nat) "CommandHouseModel" "noNames" "Z"),
  (Jvm.Cond.fieldLink "CommandHouseModel" (259 : Nat) "CommandHouseModel" "status" "I"),
  (Jvm.Cond.fieldLink "CommandHouseModel" (496 : Nat) "CommandHouseModel" "outs" "I"),
  (Jvm.Cond.fieldLink "CommandHouseModel" (493 : Nat) "CommandHouseModel" "diagnostics" "I"),
  (Jvm.Cond.fieldLink "CommandHouseModel" (469 : Nat) "CommandHouseModel" "simple" "I"),
  (Jvm.Cond.fieldLink "CommandHouseModel" (227 : Nat) "CommandHouseModel" "flow" "I"),
  (Jvm.Cond.fieldLink "CommandHouseModel" (483 : Nat) "CommandHouseModel" "limit" "I"),
  (Jvm.Cond.fieldLink "CommandHouseModel" (376 : Nat) "CommandHouseModel" "loops" "I"),
  (Jvm.Cond.fieldLink "CommandHouseModel" (584 : Nat) "CommandHouseModel" "calls" "I"),
  (Jvm.Cond.fieldLink "CommandHouseModel" (557 : Nat) "CommandHouseModel" "levels" "I"),
  (Jvm.Cond.fieldLink "CommandHouseModel" (311 : Nat) "CommandHouseModel" "deep" "I"),
  (Jvm.Cond.fieldLink "CommandHouseModel" (289 : Nat) "CommandHouseModel" "sink" "I"),
  (Jvm.Cond.fieldLink "CommandHouseModel" (283 : Nat) "CommandHouseModel" "input" "I"),
  (Jvm.Cond.fieldLink "CommandHouseModel" (486 : Nat) "CommandHouseModel" "work" "I"),
  (Jvm.Cond.constant "CommandHouseModel" (489 : Nat) (150000 : Int32)),
  (Jvm.Cond.fieldLink "CommandHouseModel" (169 : Nat) "CommandHouseModel" "at" "I"),
  (Jvm.Cond.fieldLink "CommandHouseModel" (143 : Nat) "CommandHouseModel" "stop" "I"),
  (Jvm.Cond.fieldLink "CommandHouseModel" (166 : Nat) "CommandHouseModel" "token" "I"),
  (Jvm.Cond.fieldLink "CommandHouseModel" (175 : Nat) "CommandHouseModel" "tokenFrom" "I"),
  (Jvm.Cond.fieldLink "CommandHouseModel" (172 : Nat) "CommandHouseModel" "tokenTo" "I")]
def wL24 : List Cond := [(Jvm.Cond.fieldLink "CommandHouseModel" (194 : Nat) "CommandHouseModel" "waits" "I"),
  (Jvm.Cond.fieldLink "CommandHouseModel" (209 : Nat) "CommandHouseModel" "checks" "Z"),
  (Jvm.Cond.code ({ cls := "CommandHouseModel", name := "newInput", desc := "(III)I" } : Jvm.MethodName) prog_15_method_70_code (4 : Nat) (Option.some Jvm.ClassFile.FieldType.int)),
  (Jvm.Cond.methodLink "CommandHouseModel" (307 : Nat) ({ cls := "CommandHouseModel", name := "newInput", desc := "(III)I" } : Jvm.MethodName)),
  (Jvm.Cond.instanceMethod ({ cls := "CommandHouseModel", name := "newInput", desc := "(III)I" } : Jvm.MethodName)),
  (Jvm.Cond.code ({ cls := "CommandHouseModel", name := "addWork", desc := "(I)Z" } : Jvm.MethodName) prog_15_method_63_code (2 : Nat) (Option.some Jvm.ClassFile.FieldType.boolean)),
  (Jvm.Cond.methodLink "CommandHouseModel" (379 : Nat) ({ cls := "CommandHouseModel", name := "addWork", desc := "(I)Z" } : Jvm.MethodName)),
  (Jvm.Cond.instanceMethod ({ cls := "CommandHouseModel", name := "addWork", desc := "(I)Z" } : Jvm.MethodName)),
  (Jvm.Cond.code ({ cls := "CommandHouseModel", name := "begun", desc := "([III)I" } : Jvm.MethodName) prog_15_method_102_code (6 : Nat) (Option.some Jvm.ClassFile.FieldType.int)),
  (Jvm.Cond.methodLink "CommandHouseModel" (761 : Nat) ({ cls := "CommandHouseModel", name := "begun", desc := "([III)I" } : Jvm.MethodName)),
  (Jvm.Cond.instanceMethod ({ cls := "CommandHouseModel", name := "begun", desc := "([III)I" } : Jvm.MethodName)),
  (Jvm.Cond.code ({ cls := "CommandHouseModel", name := "keep", desc := "()V" } : Jvm.MethodName) prog_15_method_32_code (1 : Nat) (Option.none : Option Jvm.ClassFile.FieldType)),
  (Jvm.Cond.methodLink "CommandHouseModel" (268 : Nat) ({ cls := "CommandHouseModel", name := "keep", desc := "()V" } : Jvm.MethodName)),
  (Jvm.Cond.instanceMethod ({ cls := "CommandHouseModel", name := "keep", desc := "()V" } : Jvm.MethodName)),
  (Jvm.Cond.code ({ cls := "CommandHouseModel", name := "byteAt", desc := "(I)I" } : Jvm.MethodName) prog_15_method_7_code (2 : Nat) (Option.some Jvm.ClassFile.FieldType.int)),
  (Jvm.Cond.methodLink "CommandHouseModel" (146 : Nat) ({ cls := "CommandHouseModel", name := "byteAt", desc := "(I)I" } : Jvm.MethodName)),
  (Jvm.Cond.instanceMethod ({ cls := "CommandHouseModel", name := "byteAt", desc := "(I)I" } : Jvm.MethodName)),
  (Jvm.Cond.code ({ cls := "CommandHouseModel", name := "isBlank", desc := "(I)Z" } : Jvm.MethodName) prog_15_method_3_code (1 : Nat) (Option.some Jvm.ClassFile.FieldType.boolean)),
  (Jvm.Cond.methodLink "CommandHouseModel" (135 : Nat) ({ cls := "CommandHouseModel", name := "isBlank", desc := "(I)Z" } : Jvm.MethodName)),
  (Jvm.Cond.static ({ cls := "CommandHouseModel", name := "isBlank", desc := "(I)Z" } : Jvm.MethodName))]
def wL25 : List Cond := [(Jvm.Cond.code ({ cls := "CommandHouseModel", name := "passBlanks", desc := "()V" } : Jvm.MethodName) prog_15_method_15_code (4 : Nat) (Option.none : Option Jvm.ClassFile.FieldType)),
  (Jvm.Cond.methodLink "CommandHouseModel" (178 : Nat) ({ cls := "CommandHouseModel", name := "passBlanks", desc := "()V" } : Jvm.MethodName)),
  (Jvm.Cond.instanceMethod ({ cls := "CommandHouseModel", name := "passBlanks", desc := "()V" } : Jvm.MethodName)),
  (Jvm.Cond.code ({ cls := "CommandHouseModel", name := "next", desc := "()V" } : Jvm.MethodName) prog_15_method_16_code (4 : Nat) (Option.none : Option Jvm.ClassFile.FieldType)),
  (Jvm.Cond.methodLink "CommandHouseModel" (206 : Nat) ({ cls := "CommandHouseModel", name := "next", desc := "()V" } : Jvm.MethodName)),
  (Jvm.Cond.instanceMethod ({ cls := "CommandHouseModel", name := "next", desc := "()V" } : Jvm.MethodName)),
  (Jvm.Cond.code ({ cls := "CommandHouseModel", name := "go", desc := "()V" } : Jvm.MethodName) prog_15_method_21_code (2 : Nat) (Option.none : Option Jvm.ClassFile.FieldType)),
  (Jvm.Cond.methodLink "CommandHouseModel" (224 : Nat) ({ cls := "CommandHouseModel", name := "go", desc := "()V" } : Jvm.MethodName)),
  (Jvm.Cond.instanceMethod ({ cls := "CommandHouseModel", name := "go", desc := "()V" } : Jvm.MethodName)),
  (Jvm.Cond.code ({ cls := "CommandHouseModel", name := "back", desc := "()V" } : Jvm.MethodName) prog_15_method_33_code (1 : Nat) (Option.none : Option Jvm.ClassFile.FieldType)),
  (Jvm.Cond.methodLink "CommandHouseModel" (274 : Nat) ({ cls := "CommandHouseModel", name := "back", desc := "()V" } : Jvm.MethodName)),
  (Jvm.Cond.instanceMethod ({ cls := "CommandHouseModel", name := "back", desc := "()V" } : Jvm.MethodName)),
  (Jvm.Cond.code ({ cls := "CommandHouseModel", name := "unkeep", desc := "()V" } : Jvm.MethodName) prog_15_method_34_code (1 : Nat) (Option.none : Option Jvm.ClassFile.FieldType)),
  (Jvm.Cond.methodLink "CommandHouseModel" (277 : Nat) ({ cls := "CommandHouseModel", name := "unkeep", desc := "()V" } : Jvm.MethodName)),
  (Jvm.Cond.instanceMethod ({ cls := "CommandHouseModel", name := "unkeep", desc := "()V" } : Jvm.MethodName)),
  (Jvm.Cond.code ({ cls := "CommandHouseModel", name := "runScript", desc := "(II)I" } : Jvm.MethodName) prog_15_method_103_code (10 : Nat) (Option.some Jvm.ClassFile.FieldType.int)),
  (Jvm.Cond.methodLink "CommandHouseModel" (672 : Nat) ({ cls := "CommandHouseModel", name := "runScript", desc := "(II)I" } : Jvm.MethodName)),
  (Jvm.Cond.instanceMethod ({ cls := "CommandHouseModel", name := "runScript", desc := "(II)I" } : Jvm.MethodName)),
  (Jvm.Cond.code ({ cls := "CommandHouseModel", name := "run", desc := "()I" } : Jvm.MethodName) prog_15_method_171_code (3 : Nat) (Option.some Jvm.ClassFile.FieldType.int)),
  (Jvm.Cond.methodLink "CommandHouseLaw" (31 : Nat) ({ cls := "CommandHouseModel", name := "run", desc := "()I" } : Jvm.MethodName))]
def wL26 : List Cond := [(Jvm.Cond.instanceMethod ({ cls := "CommandHouseModel", name := "run", desc := "()I" } : Jvm.MethodName)),
  (Jvm.Cond.selects "CommandHouseModel" ({ cls := "CommandHouseModel", name := "run", desc := "()I" } : Jvm.MethodName) ({ cls := "CommandHouseModel", name := "run", desc := "()I" } : Jvm.MethodName)),
  (Jvm.Cond.fieldLinkNest "CommandHouse" (86 : Nat) "CommandHouse$Book" "out" "LCommandHouse$Bytes;" "CommandHouse"),
  (Jvm.Cond.code ({ cls := "CommandHouse", name := "size", desc := "()I" } : Jvm.MethodName) prog_1_method_6_code (1 : Nat) (Option.some Jvm.ClassFile.FieldType.int)),
  (Jvm.Cond.methodLink "CommandHouseLaw" (32 : Nat) ({ cls := "CommandHouse", name := "size", desc := "()I" } : Jvm.MethodName)),
  (Jvm.Cond.instanceMethod ({ cls := "CommandHouse", name := "size", desc := "()I" } : Jvm.MethodName)),
  (Jvm.Cond.selects "CommandHouse" ({ cls := "CommandHouse", name := "size", desc := "()I" } : Jvm.MethodName) ({ cls := "CommandHouse", name := "size", desc := "()I" } : Jvm.MethodName)),
  (Jvm.Cond.code ({ cls := "CommandHouseModel", name := "size", desc := "()I" } : Jvm.MethodName) prog_15_method_172_code (1 : Nat) (Option.some Jvm.ClassFile.FieldType.int)),
  (Jvm.Cond.methodLink "CommandHouseLaw" (35 : Nat) ({ cls := "CommandHouseModel", name := "size", desc := "()I" } : Jvm.MethodName)),
  (Jvm.Cond.instanceMethod ({ cls := "CommandHouseModel", name := "size", desc := "()I" } : Jvm.MethodName)),
  (Jvm.Cond.selects "CommandHouseModel" ({ cls := "CommandHouseModel", name := "size", desc := "()I" } : Jvm.MethodName) ({ cls := "CommandHouseModel", name := "size", desc := "()I" } : Jvm.MethodName)),
  (Jvm.Cond.code ({ cls := "CommandHouse$Bytes", name := "at", desc := "(I)I" } : Jvm.MethodName) prog_5_method_3_code (2 : Nat) (Option.some Jvm.ClassFile.FieldType.int)),
  (Jvm.Cond.methodLinkNest "CommandHouse" (89 : Nat) ({ cls := "CommandHouse$Bytes", name := "at", desc := "(I)I" } : Jvm.MethodName) "CommandHouse"),
  (Jvm.Cond.instanceMethod ({ cls := "CommandHouse$Bytes", name := "at", desc := "(I)I" } : Jvm.MethodName)),
  (Jvm.Cond.code ({ cls := "CommandHouse", name := "out", desc := "(I)I" } : Jvm.MethodName) prog_1_method_7_code (2 : Nat) (Option.some Jvm.ClassFile.FieldType.int)),
  (Jvm.Cond.methodLink "CommandHouseLaw" (36 : Nat) ({ cls := "CommandHouse", name := "out", desc := "(I)I" } : Jvm.MethodName)),
  (Jvm.Cond.instanceMethod ({ cls := "CommandHouse", name := "out", desc := "(I)I" } : Jvm.MethodName)),
  (Jvm.Cond.selects "CommandHouse" ({ cls := "CommandHouse", name := "out", desc := "(I)I" } : Jvm.MethodName) ({ cls := "CommandHouse", name := "out", desc := "(I)I" } : Jvm.MethodName)),
  (Jvm.Cond.code ({ cls := "CommandHouseModel", name := "out", desc := "(I)I" } : Jvm.MethodName) prog_15_method_173_code (2 : Nat) (Option.some Jvm.ClassFile.FieldType.int)),
  (Jvm.Cond.methodLink "CommandHouseLaw" (39 : Nat) ({ cls := "CommandHouseModel", name := "out", desc := "(I)I" } : Jvm.MethodName))]
def wL27 : List Cond := [(Jvm.Cond.instanceMethod ({ cls := "CommandHouseModel", name := "out", desc := "(I)I" } : Jvm.MethodName)),
  (Jvm.Cond.selects "CommandHouseModel" ({ cls := "CommandHouseModel", name := "out", desc := "(I)I" } : Jvm.MethodName) ({ cls := "CommandHouseModel", name := "out", desc := "(I)I" } : Jvm.MethodName)),
  (Jvm.Cond.fieldLinkNest "CommandHouse" (93 : Nat) "CommandHouse$Book" "told" "I" "CommandHouse"),
  (Jvm.Cond.code ({ cls := "CommandHouse", name := "diagnostic", desc := "(I)I" } : Jvm.MethodName) prog_1_method_8_code (2 : Nat) (Option.some Jvm.ClassFile.FieldType.int)),
  (Jvm.Cond.methodLink "CommandHouseLaw" (40 : Nat) ({ cls := "CommandHouse", name := "diagnostic", desc := "(I)I" } : Jvm.MethodName)),
  (Jvm.Cond.instanceMethod ({ cls := "CommandHouse", name := "diagnostic", desc := "(I)I" } : Jvm.MethodName)),
  (Jvm.Cond.selects "CommandHouse" ({ cls := "CommandHouse", name := "diagnostic", desc := "(I)I" } : Jvm.MethodName) ({ cls := "CommandHouse", name := "diagnostic", desc := "(I)I" } : Jvm.MethodName)),
  (Jvm.Cond.code ({ cls := "CommandHouseModel", name := "diagnostic", desc := "(I)I" } : Jvm.MethodName) prog_15_method_174_code (2 : Nat) (Option.some Jvm.ClassFile.FieldType.int)),
  (Jvm.Cond.methodLink "CommandHouseLaw" (43 : Nat) ({ cls := "CommandHouseModel", name := "diagnostic", desc := "(I)I" } : Jvm.MethodName)),
  (Jvm.Cond.instanceMethod ({ cls := "CommandHouseModel", name := "diagnostic", desc := "(I)I" } : Jvm.MethodName)),
  (Jvm.Cond.selects "CommandHouseModel" ({ cls := "CommandHouseModel", name := "diagnostic", desc := "(I)I" } : Jvm.MethodName) ({ cls := "CommandHouseModel", name := "diagnostic", desc := "(I)I" } : Jvm.MethodName)),
  (Jvm.Cond.fieldLinkNest "CommandHouse" (100 : Nat) "CommandHouse$Machine" "wrongPlace" "I" "CommandHouse"),
  (Jvm.Cond.code ({ cls := "CommandHouse", name := "wrong", desc := "()I" } : Jvm.MethodName) prog_1_method_9_code (1 : Nat) (Option.some Jvm.ClassFile.FieldType.int)),
  (Jvm.Cond.methodLink "CommandHouseLaw" (44 : Nat) ({ cls := "CommandHouse", name := "wrong", desc := "()I" } : Jvm.MethodName)),
  (Jvm.Cond.instanceMethod ({ cls := "CommandHouse", name := "wrong", desc := "()I" } : Jvm.MethodName)),
  (Jvm.Cond.selects "CommandHouse" ({ cls := "CommandHouse", name := "wrong", desc := "()I" } : Jvm.MethodName) ({ cls := "CommandHouse", name := "wrong", desc := "()I" } : Jvm.MethodName)),
  (Jvm.Cond.code ({ cls := "CommandHouseModel", name := "wrong", desc := "()I" } : Jvm.MethodName) prog_15_method_175_code (1 : Nat) (Option.some Jvm.ClassFile.FieldType.int)),
  (Jvm.Cond.methodLink "CommandHouseLaw" (47 : Nat) ({ cls := "CommandHouseModel", name := "wrong", desc := "()I" } : Jvm.MethodName)),
  (Jvm.Cond.instanceMethod ({ cls := "CommandHouseModel", name := "wrong", desc := "()I" } : Jvm.MethodName)),
  (Jvm.Cond.selects "CommandHouseModel" ({ cls := "CommandHouseModel", name := "wrong", desc := "()I" } : Jvm.MethodName) ({ cls := "CommandHouseModel", name := "wrong", desc := "()I" } : Jvm.MethodName))]
def wL28 : List Cond := [(Jvm.Cond.fieldLinkNest "CommandHouse" (103 : Nat) "CommandHouse$Book" "work" "I" "CommandHouse"),
  (Jvm.Cond.fieldLinkNest "CommandHouse" (106 : Nat) "CommandHouse$Book" "ran" "I" "CommandHouse"),
  (Jvm.Cond.fieldLinkNest "CommandHouse" (109 : Nat) "CommandHouse$Book" "shelved" "I" "CommandHouse"),
  (Jvm.Cond.fieldLink "CommandHouse$Book" (78 : Nat) "CommandHouse$Book" "shelved" "I"),
  (Jvm.Cond.code ({ cls := "CommandHouse$Book", name := "fileBytes", desc := "()I" } : Jvm.MethodName) prog_2_method_10_code (3 : Nat) (Option.some Jvm.ClassFile.FieldType.int)),
  (Jvm.Cond.methodLinkNest "CommandHouse" (112 : Nat) ({ cls := "CommandHouse$Book", name := "fileBytes", desc := "()I" } : Jvm.MethodName) "CommandHouse"),
  (Jvm.Cond.instanceMethod ({ cls := "CommandHouse$Book", name := "fileBytes", desc := "()I" } : Jvm.MethodName)),
  (Jvm.Cond.code ({ cls := "CommandHouse", name := "count", desc := "(I)I" } : Jvm.MethodName) prog_1_method_10_code (2 : Nat) (Option.some Jvm.ClassFile.FieldType.int)),
  (Jvm.Cond.methodLink "CommandHouseLaw" (48 : Nat) ({ cls := "CommandHouse", name := "count", desc := "(I)I" } : Jvm.MethodName)),
  (Jvm.Cond.instanceMethod ({ cls := "CommandHouse", name := "count", desc := "(I)I" } : Jvm.MethodName)),
  (Jvm.Cond.selects "CommandHouse" ({ cls := "CommandHouse", name := "count", desc := "(I)I" } : Jvm.MethodName) ({ cls := "CommandHouse", name := "count", desc := "(I)I" } : Jvm.MethodName)),
  (Jvm.Cond.fieldLink "CommandHouseModel" (505 : Nat) "CommandHouseModel" "files" "I"),
  (Jvm.Cond.code ({ cls := "CommandHouseModel", name := "count", desc := "(I)I" } : Jvm.MethodName) prog_15_method_176_code (4 : Nat) (Option.some Jvm.ClassFile.FieldType.int)),
  (Jvm.Cond.methodLink "CommandHouseLaw" (51 : Nat) ({ cls := "CommandHouseModel", name := "count", desc := "(I)I" } : Jvm.MethodName)),
  (Jvm.Cond.instanceMethod ({ cls := "CommandHouseModel", name := "count", desc := "(I)I" } : Jvm.MethodName)),
  (Jvm.Cond.selects "CommandHouseModel" ({ cls := "CommandHouseModel", name := "count", desc := "(I)I" } : Jvm.MethodName) ({ cls := "CommandHouseModel", name := "count", desc := "(I)I" } : Jvm.MethodName)),
  (Jvm.Cond.code ({ cls := "CommandHouse$Book", name := "fileAt", desc := "(I)LCommandHouse$Bytes;" } : Jvm.MethodName) prog_2_method_9_code (2 : Nat) (Option.some (Jvm.ClassFile.FieldType.object "CommandHouse$Bytes"))),
  (Jvm.Cond.methodLinkNest "CommandHouse" (116 : Nat) ({ cls := "CommandHouse$Book", name := "fileAt", desc := "(I)LCommandHouse$Bytes;" } : Jvm.MethodName) "CommandHouse"),
  (Jvm.Cond.instanceMethod ({ cls := "CommandHouse$Book", name := "fileAt", desc := "(I)LCommandHouse$Bytes;" } : Jvm.MethodName)),
  (Jvm.Cond.code ({ cls := "CommandHouse", name := "file", desc := "(I)I" } : Jvm.MethodName) prog_1_method_11_code (3 : Nat) (Option.some Jvm.ClassFile.FieldType.int))]
def wL29 : List Cond := [(Jvm.Cond.methodLink "CommandHouseLaw" (52 : Nat) ({ cls := "CommandHouse", name := "file", desc := "(I)I" } : Jvm.MethodName)),
  (Jvm.Cond.instanceMethod ({ cls := "CommandHouse", name := "file", desc := "(I)I" } : Jvm.MethodName)),
  (Jvm.Cond.selects "CommandHouse" ({ cls := "CommandHouse", name := "file", desc := "(I)I" } : Jvm.MethodName) ({ cls := "CommandHouse", name := "file", desc := "(I)I" } : Jvm.MethodName)),
  (Jvm.Cond.code ({ cls := "CommandHouseModel", name := "ranked", desc := "(I)I" } : Jvm.MethodName) prog_15_method_75_code (5 : Nat) (Option.some Jvm.ClassFile.FieldType.int)),
  (Jvm.Cond.methodLink "CommandHouseModel" (782 : Nat) ({ cls := "CommandHouseModel", name := "ranked", desc := "(I)I" } : Jvm.MethodName)),
  (Jvm.Cond.instanceMethod ({ cls := "CommandHouseModel", name := "ranked", desc := "(I)I" } : Jvm.MethodName)),
  (Jvm.Cond.code ({ cls := "CommandHouseModel", name := "file", desc := "(I)I" } : Jvm.MethodName) prog_15_method_177_code (3 : Nat) (Option.some Jvm.ClassFile.FieldType.int)),
  (Jvm.Cond.methodLink "CommandHouseLaw" (55 : Nat) ({ cls := "CommandHouseModel", name := "file", desc := "(I)I" } : Jvm.MethodName)),
  (Jvm.Cond.instanceMethod ({ cls := "CommandHouseModel", name := "file", desc := "(I)I" } : Jvm.MethodName)),
  (Jvm.Cond.selects "CommandHouseModel" ({ cls := "CommandHouseModel", name := "file", desc := "(I)I" } : Jvm.MethodName) ({ cls := "CommandHouseModel", name := "file", desc := "(I)I" } : Jvm.MethodName)),
  (Jvm.Cond.code ({ cls := "CommandHouse", name := "byteOf", desc := "(IZI)I" } : Jvm.MethodName) prog_1_method_12_code (6 : Nat) (Option.some Jvm.ClassFile.FieldType.int)),
  (Jvm.Cond.methodLink "CommandHouseLaw" (56 : Nat) ({ cls := "CommandHouse", name := "byteOf", desc := "(IZI)I" } : Jvm.MethodName)),
  (Jvm.Cond.instanceMethod ({ cls := "CommandHouse", name := "byteOf", desc := "(IZI)I" } : Jvm.MethodName)),
  (Jvm.Cond.selects "CommandHouse" ({ cls := "CommandHouse", name := "byteOf", desc := "(IZI)I" } : Jvm.MethodName) ({ cls := "CommandHouse", name := "byteOf", desc := "(IZI)I" } : Jvm.MethodName)),
  (Jvm.Cond.code ({ cls := "CommandHouseModel", name := "byteOf", desc := "(IZI)I" } : Jvm.MethodName) prog_15_method_178_code (5 : Nat) (Option.some Jvm.ClassFile.FieldType.int)),
  (Jvm.Cond.methodLink "CommandHouseLaw" (60 : Nat) ({ cls := "CommandHouseModel", name := "byteOf", desc := "(IZI)I" } : Jvm.MethodName)),
  (Jvm.Cond.instanceMethod ({ cls := "CommandHouseModel", name := "byteOf", desc := "(IZI)I" } : Jvm.MethodName)),
  (Jvm.Cond.selects "CommandHouseModel" ({ cls := "CommandHouseModel", name := "byteOf", desc := "(IZI)I" } : Jvm.MethodName) ({ cls := "CommandHouseModel", name := "byteOf", desc := "(IZI)I" } : Jvm.MethodName)),
  (Jvm.Cond.instantiable "CommandHouse$Builder" (20 : Nat))]
def wL : List Cond := wL0 ++ (wL1 ++ (wL2 ++ (wL3 ++ (wL4 ++ (wL5 ++ (wL6 ++ (wL7 ++ (wL8 ++ (wL9 ++ (wL10 ++ (wL11 ++ (wL12 ++ (wL13 ++ (wL14 ++ (wL15 ++ (wL16 ++ (wL17 ++ (wL18 ++ (wL19 ++ (wL20 ++ (wL21 ++ (wL22 ++ (wL23 ++ (wL24 ++ (wL25 ++ (wL26 ++ (wL27 ++ (wL28 ++ (wL29)))))))))))))))))))))))))))))
def wS : List Cond := [Cond.selects "CommandHouse$Input" ⟨"CommandHouse$Input", "begin", "(LCommandHouse$Bytes;)V"⟩ ⟨"CommandHouse$Input", "begin", "(LCommandHouse$Bytes;)V"⟩, Cond.selects "java/util/ArrayList" ⟨"java/util/ArrayList", "grow", "(I)[Ljava/lang/Object;"⟩ ⟨"java/util/ArrayList", "grow", "(I)[Ljava/lang/Object;"⟩, Cond.selects "java/util/ArrayList" ⟨"java/util/ArrayList", "grow", "()[Ljava/lang/Object;"⟩ ⟨"java/util/ArrayList", "grow", "()[Ljava/lang/Object;"⟩, Cond.selects "java/util/ArrayList" ⟨"java/util/ArrayList", "add", "(Ljava/lang/Object;[Ljava/lang/Object;I)V"⟩ ⟨"java/util/ArrayList", "add", "(Ljava/lang/Object;[Ljava/lang/Object;I)V"⟩, Cond.selects "CommandHouse" ⟨"CommandHouse", "lay", "(I)V"⟩ ⟨"CommandHouse", "lay", "(I)V"⟩, Cond.selects "CommandHouse$Book" ⟨"CommandHouse$Book", "begin", "()V"⟩ ⟨"CommandHouse$Book", "begin", "()V"⟩, Cond.selects "CommandHouse$Words" ⟨"CommandHouse$Words", "begin", "()V"⟩ ⟨"CommandHouse$Words", "begin", "()V"⟩, Cond.selects "CommandHouse$State" ⟨"CommandHouse$State", "setParameters", "([LCommandHouse$Bytes;I)V"⟩ ⟨"CommandHouse$State", "setParameters", "([LCommandHouse$Bytes;I)V"⟩, Cond.selects "CommandHouse$State" ⟨"CommandHouse$State", "clear", "([LCommandHouse$Bytes;)V"⟩ ⟨"CommandHouse$State", "clear", "([LCommandHouse$Bytes;)V"⟩, Cond.selects "CommandHouse$Machine" ⟨"CommandHouse$Machine", "push", "(I)LCommandHouse$Frame;"⟩ ⟨"CommandHouse$Machine", "push", "(I)LCommandHouse$Frame;"⟩, Cond.selects "CommandHouse$Book" ⟨"CommandHouse$Book", "spend", "(I)Z"⟩ ⟨"CommandHouse$Book", "spend", "(I)Z"⟩, Cond.selects "CommandHouse$Machine" ⟨"CommandHouse$Machine", "begin", "(LCommandHouse$Bytes;LCommandHouse$Input;)V"⟩ ⟨"CommandHouse$Machine", "begin", "(LCommandHouse$Bytes;LCommandHouse$Input;)V"⟩, Cond.selects "CommandHouse$Script" ⟨"CommandHouse$Script", "codeAt", "(I)I"⟩ ⟨"CommandHouse$Script", "codeAt", "(I)I"⟩, Cond.selects "CommandHouse$Script" ⟨"CommandHouse$Script", "isWrong", "()Z"⟩ ⟨"CommandHouse$Script", "isWrong", "()Z"⟩, Cond.selects "CommandHouse$Script" ⟨"CommandHouse$Script", "at", "(I)I"⟩ ⟨"CommandHouse$Script", "at", "(I)I"⟩, Cond.selects "CommandHouse$Script" ⟨"CommandHouse$Script", "passBlanks", "()V"⟩ ⟨"CommandHouse$Script", "passBlanks", "()V"⟩, Cond.selects "CommandHouse$Script" ⟨"CommandHouse$Script", "takeTexts", "()V"⟩ ⟨"CommandHouse$Script", "takeTexts", "()V"⟩, Cond.selects "CommandHouse$Script" ⟨"CommandHouse$Script", "advance", "()V"⟩ ⟨"CommandHouse$Script", "advance", "()V"⟩, Cond.selects "CommandHouse$Script" ⟨"CommandHouse$Script", "skipLines", "()V"⟩ ⟨"CommandHouse$Script", "skipLines", "()V"⟩, Cond.selects "CommandHouse$Script" ⟨"CommandHouse$Script", "next", "()I"⟩ ⟨"CommandHouse$Script", "next", "()I"⟩, Cond.selects "CommandHouse$Machine" ⟨"CommandHouse$Machine", "frameAt", "(I)LCommandHouse$Frame;"⟩ ⟨"CommandHouse$Machine", "frameAt", "(I)LCommandHouse$Frame;"⟩, Cond.selects "CommandHouse$Machine" ⟨"CommandHouse$Machine", "top", "()LCommandHouse$Frame;"⟩ ⟨"CommandHouse$Machine", "top", "()LCommandHouse$Frame;"⟩, Cond.selects "CommandHouse$Machine" ⟨"CommandHouse$Machine", "comeBack", "(LCommandHouse$Frame;)V"⟩ ⟨"CommandHouse$Machine", "comeBack", "(LCommandHouse$Frame;)V"⟩, Cond.selects "CommandHouse$Machine" ⟨"CommandHouse$Machine", "pop", "()V"⟩ ⟨"CommandHouse$Machine", "pop", "()V"⟩, Cond.selects "CommandHouse$Machine" ⟨"CommandHouse$Machine", "proceed", "()V"⟩ ⟨"CommandHouse$Machine", "proceed", "()V"⟩, Cond.selects "CommandHouse$Machine" ⟨"CommandHouse$Machine", "step", "(LCommandHouse$Script;I)V"⟩ ⟨"CommandHouse$Machine", "step", "(LCommandHouse$Script;I)V"⟩, Cond.selects "CommandHouse$Machine" ⟨"CommandHouse$Machine", "execute", "(I)V"⟩ ⟨"CommandHouse$Machine", "execute", "(I)V"⟩, Cond.selects "CommandHouseModel" ⟨"CommandHouseModel", "newInput", "(III)I"⟩ ⟨"CommandHouseModel", "newInput", "(III)I"⟩, Cond.selects "CommandHouseModel" ⟨"CommandHouseModel", "addWork", "(I)Z"⟩ ⟨"CommandHouseModel", "addWork", "(I)Z"⟩, Cond.selects "CommandHouseModel" ⟨"CommandHouseModel", "begun", "([III)I"⟩ ⟨"CommandHouseModel", "begun", "([III)I"⟩, Cond.selects "CommandHouseModel" ⟨"CommandHouseModel", "keep", "()V"⟩ ⟨"CommandHouseModel", "keep", "()V"⟩, Cond.selects "CommandHouseModel" ⟨"CommandHouseModel", "byteAt", "(I)I"⟩ ⟨"CommandHouseModel", "byteAt", "(I)I"⟩, Cond.selects "CommandHouseModel" ⟨"CommandHouseModel", "passBlanks", "()V"⟩ ⟨"CommandHouseModel", "passBlanks", "()V"⟩, Cond.selects "CommandHouseModel" ⟨"CommandHouseModel", "next", "()V"⟩ ⟨"CommandHouseModel", "next", "()V"⟩, Cond.selects "CommandHouseModel" ⟨"CommandHouseModel", "go", "()V"⟩ ⟨"CommandHouseModel", "go", "()V"⟩, Cond.selects "CommandHouseModel" ⟨"CommandHouseModel", "back", "()V"⟩ ⟨"CommandHouseModel", "back", "()V"⟩, Cond.selects "CommandHouseModel" ⟨"CommandHouseModel", "unkeep", "()V"⟩ ⟨"CommandHouseModel", "unkeep", "()V"⟩, Cond.selects "CommandHouseModel" ⟨"CommandHouseModel", "runScript", "(II)I"⟩ ⟨"CommandHouseModel", "runScript", "(II)I"⟩, Cond.selects "CommandHouse$Bytes" ⟨"CommandHouse$Bytes", "at", "(I)I"⟩ ⟨"CommandHouse$Bytes", "at", "(I)I"⟩, Cond.selects "CommandHouse$Book" ⟨"CommandHouse$Book", "fileBytes", "()I"⟩ ⟨"CommandHouse$Book", "fileBytes", "()I"⟩, Cond.selects "CommandHouse$Book" ⟨"CommandHouse$Book", "fileAt", "(I)LCommandHouse$Bytes;"⟩ ⟨"CommandHouse$Book", "fileAt", "(I)LCommandHouse$Bytes;"⟩, Cond.selects "CommandHouseModel" ⟨"CommandHouseModel", "ranked", "(I)I"⟩ ⟨"CommandHouseModel", "ranked", "(I)I"⟩]
def wAll : List Cond := wC ++ (wL ++ wS)
theorem memL0 : ∀ w ∈ wL0, w ∈ wAll := fun w h => List.mem_append_right _ (List.mem_append_left _ (List.mem_append_left _ h))
theorem memL1 : ∀ w ∈ wL1, w ∈ wAll := fun w h => List.mem_append_right _ (List.mem_append_left _ (List.mem_append_right _ (List.mem_append_left _ h)))
theorem memL2 : ∀ w ∈ wL2, w ∈ wAll := fun w h => List.mem_append_right _ (List.mem_append_left _ (List.mem_append_right _ (List.mem_append_right _ (List.mem_append_left _ h))))
theorem memL3 : ∀ w ∈ wL3, w ∈ wAll := fun w h => List.mem_append_right _ (List.mem_append_left _ (List.mem_append_right _ (List.mem_append_right _ (List.mem_append_right _ (List.mem_append_left _ h)))))
theorem memL4 : ∀ w ∈ wL4, w ∈ wAll := fun w h => List.mem_append_right _ (List.mem_append_left _ (List.mem_append_right _ (List.mem_append_right _ (List.mem_append_right _ (List.mem_append_right _ (List.mem_append_left _ h))))))
theorem memL5 : ∀ w ∈ wL5, w ∈ wAll := fun w h => List.mem_append_right _ (List.mem_append_left _ (List.mem_append_right _ (List.mem_append_right _ (List.mem_append_right _ (List.mem_append_right _ (List.mem_append_right _ (List.mem_append_left _ h)))))))
theorem memL6 : ∀ w ∈ wL6, w ∈ wAll := fun w h => List.mem_append_right _ (List.mem_append_left _ (List.mem_append_right _ (List.mem_append_right _ (List.mem_append_right _ (List.mem_append_right _ (List.mem_append_right _ (List.mem_append_right _ (List.mem_append_left _ h))))))))
theorem memL7 : ∀ w ∈ wL7, w ∈ wAll := fun w h => List.mem_append_right _ (List.mem_append_left _ (List.mem_append_right _ (List.mem_append_right _ (List.mem_append_right _ (List.mem_append_right _ (List.mem_append_right _ (List.mem_append_right _ (List.mem_append_right _ (List.mem_append_left _ h)))))))))
theorem memL8 : ∀ w ∈ wL8, w ∈ wAll := fun w h => List.mem_append_right _ (List.mem_append_left _ (List.mem_append_right _ (List.mem_append_right _ (List.mem_append_right _ (List.mem_append_right _ (List.mem_append_right _ (List.mem_append_right _ (List.mem_append_right _ (List.mem_append_right _ (List.mem_append_left _ h))))))))))
theorem memL9 : ∀ w ∈ wL9, w ∈ wAll := fun w h => List.mem_append_right _ (List.mem_append_left _ (List.mem_append_right _ (List.mem_append_right _ (List.mem_append_right _ (List.mem_append_right _ (List.mem_append_right _ (List.mem_append_right _ (List.mem_append_right _ (List.mem_append_right _ (List.mem_append_right _ (List.mem_append_left _ h)))))))))))
theorem memL10 : ∀ w ∈ wL10, w ∈ wAll := fun w h => List.mem_append_right _ (List.mem_append_left _ (List.mem_append_right _ (List.mem_append_right _ (List.mem_append_right _ (List.mem_append_right _ (List.mem_append_right _ (List.mem_append_right _ (List.mem_append_right _ (List.mem_append_right _ (List.mem_append_right _ (List.mem_append_right _ (List.mem_append_left _ h))))))))))))
theorem memL11 : ∀ w ∈ wL11, w ∈ wAll := fun w h => List.mem_append_right _ (List.mem_append_left _ (List.mem_append_right _ (List.mem_append_right _ (List.mem_append_right _ (List.mem_append_right _ (List.mem_append_right _ (List.mem_append_right _ (List.mem_append_right _ (List.mem_append_right _ (List.mem_append_right _ (List.mem_append_right _ (List.mem_append_right _ (List.mem_append_left _ h)))))))))))))
theorem memL12 : ∀ w ∈ wL12, w ∈ wAll := fun w h => List.mem_append_right _ (List.mem_append_left _ (List.mem_append_right _ (List.mem_append_right _ (List.mem_append_right _ (List.mem_append_right _ (List.mem_append_right _ (List.mem_append_right _ (List.mem_append_right _ (List.mem_append_right _ (List.mem_append_right _ (List.mem_append_right _ (List.mem_append_right _ (List.mem_append_right _ (List.mem_append_left _ h))))))))))))))
theorem memL13 : ∀ w ∈ wL13, w ∈ wAll := fun w h => List.mem_append_right _ (List.mem_append_left _ (List.mem_append_right _ (List.mem_append_right _ (List.mem_append_right _ (List.mem_append_right _ (List.mem_append_right _ (List.mem_append_right _ (List.mem_append_right _ (List.mem_append_right _ (List.mem_append_right _ (List.mem_append_right _ (List.mem_append_right _ (List.mem_append_right _ (List.mem_append_right _ (List.mem_append_left _ h)))))))))))))))
theorem memL14 : ∀ w ∈ wL14, w ∈ wAll := fun w h => List.mem_append_right _ (List.mem_append_left _ (List.mem_append_right _ (List.mem_append_right _ (List.mem_append_right _ (List.mem_append_right _ (List.mem_append_right _ (List.mem_append_right _ (List.mem_append_right _ (List.mem_append_right _ (List.mem_append_right _ (List.mem_append_right _ (List.mem_append_right _ (List.mem_append_right _ (List.mem_append_right _ (List.mem_append_right _ (List.mem_append_left _ h))))))))))))))))
theorem memL15 : ∀ w ∈ wL15, w ∈ wAll := fun w h => List.mem_append_right _ (List.mem_append_left _ (List.mem_append_right _ (List.mem_append_right _ (List.mem_append_right _ (List.mem_append_right _ (List.mem_append_right _ (List.mem_append_right _ (List.mem_append_right _ (List.mem_append_right _ (List.mem_append_right _ (List.mem_append_right _ (List.mem_append_right _ (List.mem_append_right _ (List.mem_append_right _ (List.mem_append_right _ (List.mem_append_right _ (List.mem_append_left _ h)))))))))))))))))
theorem memL16 : ∀ w ∈ wL16, w ∈ wAll := fun w h => List.mem_append_right _ (List.mem_append_left _ (List.mem_append_right _ (List.mem_append_right _ (List.mem_append_right _ (List.mem_append_right _ (List.mem_append_right _ (List.mem_append_right _ (List.mem_append_right _ (List.mem_append_right _ (List.mem_append_right _ (List.mem_append_right _ (List.mem_append_right _ (List.mem_append_right _ (List.mem_append_right _ (List.mem_append_right _ (List.mem_append_right _ (List.mem_append_right _ (List.mem_append_left _ h))))))))))))))))))
theorem memL17 : ∀ w ∈ wL17, w ∈ wAll := fun w h => List.mem_append_right _ (List.mem_append_left _ (List.mem_append_right _ (List.mem_append_right _ (List.mem_append_right _ (List.mem_append_right _ (List.mem_append_right _ (List.mem_append_right _ (List.mem_append_right _ (List.mem_append_right _ (List.mem_append_right _ (List.mem_append_right _ (List.mem_append_right _ (List.mem_append_right _ (List.mem_append_right _ (List.mem_append_right _ (List.mem_append_right _ (List.mem_append_right _ (List.mem_append_right _ (List.mem_append_left _ h)))))))))))))))))))
theorem memL18 : ∀ w ∈ wL18, w ∈ wAll := fun w h => List.mem_append_right _ (List.mem_append_left _ (List.mem_append_right _ (List.mem_append_right _ (List.mem_append_right _ (List.mem_append_right _ (List.mem_append_right _ (List.mem_append_right _ (List.mem_append_right _ (List.mem_append_right _ (List.mem_append_right _ (List.mem_append_right _ (List.mem_append_right _ (List.mem_append_right _ (List.mem_append_right _ (List.mem_append_right _ (List.mem_append_right _ (List.mem_append_right _ (List.mem_append_right _ (List.mem_append_right _ (List.mem_append_left _ h))))))))))))))))))))
theorem memL19 : ∀ w ∈ wL19, w ∈ wAll := fun w h => List.mem_append_right _ (List.mem_append_left _ (List.mem_append_right _ (List.mem_append_right _ (List.mem_append_right _ (List.mem_append_right _ (List.mem_append_right _ (List.mem_append_right _ (List.mem_append_right _ (List.mem_append_right _ (List.mem_append_right _ (List.mem_append_right _ (List.mem_append_right _ (List.mem_append_right _ (List.mem_append_right _ (List.mem_append_right _ (List.mem_append_right _ (List.mem_append_right _ (List.mem_append_right _ (List.mem_append_right _ (List.mem_append_right _ (List.mem_append_left _ h)))))))))))))))))))))
theorem memL20 : ∀ w ∈ wL20, w ∈ wAll := fun w h => List.mem_append_right _ (List.mem_append_left _ (List.mem_append_right _ (List.mem_append_right _ (List.mem_append_right _ (List.mem_append_right _ (List.mem_append_right _ (List.mem_append_right _ (List.mem_append_right _ (List.mem_append_right _ (List.mem_append_right _ (List.mem_append_right _ (List.mem_append_right _ (List.mem_append_right _ (List.mem_append_right _ (List.mem_append_right _ (List.mem_append_right _ (List.mem_append_right _ (List.mem_append_right _ (List.mem_append_right _ (List.mem_append_right _ (List.mem_append_right _ (List.mem_append_left _ h))))))))))))))))))))))
theorem memL21 : ∀ w ∈ wL21, w ∈ wAll := fun w h => List.mem_append_right _ (List.mem_append_left _ (List.mem_append_right _ (List.mem_append_right _ (List.mem_append_right _ (List.mem_append_right _ (List.mem_append_right _ (List.mem_append_right _ (List.mem_append_right _ (List.mem_append_right _ (List.mem_append_right _ (List.mem_append_right _ (List.mem_append_right _ (List.mem_append_right _ (List.mem_append_right _ (List.mem_append_right _ (List.mem_append_right _ (List.mem_append_right _ (List.mem_append_right _ (List.mem_append_right _ (List.mem_append_right _ (List.mem_append_right _ (List.mem_append_right _ (List.mem_append_left _ h)))))))))))))))))))))))
theorem memL22 : ∀ w ∈ wL22, w ∈ wAll := fun w h => List.mem_append_right _ (List.mem_append_left _ (List.mem_append_right _ (List.mem_append_right _ (List.mem_append_right _ (List.mem_append_right _ (List.mem_append_right _ (List.mem_append_right _ (List.mem_append_right _ (List.mem_append_right _ (List.mem_append_right _ (List.mem_append_right _ (List.mem_append_right _ (List.mem_append_right _ (List.mem_append_right _ (List.mem_append_right _ (List.mem_append_right _ (List.mem_append_right _ (List.mem_append_right _ (List.mem_append_right _ (List.mem_append_right _ (List.mem_append_right _ (List.mem_append_right _ (List.mem_append_right _ (List.mem_append_left _ h))))))))))))))))))))))))
theorem memL23 : ∀ w ∈ wL23, w ∈ wAll := fun w h => List.mem_append_right _ (List.mem_append_left _ (List.mem_append_right _ (List.mem_append_right _ (List.mem_append_right _ (List.mem_append_right _ (List.mem_append_right _ (List.mem_append_right _ (List.mem_append_right _ (List.mem_append_right _ (List.mem_append_right _ (List.mem_append_right _ (List.mem_append_right _ (List.mem_append_right _ (List.mem_append_right _ (List.mem_append_right _ (List.mem_append_right _ (List.mem_append_right _ (List.mem_append_right _ (List.mem_append_right _ (List.mem_append_right _ (List.mem_append_right _ (List.mem_append_right _ (List.mem_append_right _ (List.mem_append_right _ (List.mem_append_left _ h)))))))))))))))))))))))))
theorem memL24 : ∀ w ∈ wL24, w ∈ wAll := fun w h => List.mem_append_right _ (List.mem_append_left _ (List.mem_append_right _ (List.mem_append_right _ (List.mem_append_right _ (List.mem_append_right _ (List.mem_append_right _ (List.mem_append_right _ (List.mem_append_right _ (List.mem_append_right _ (List.mem_append_right _ (List.mem_append_right _ (List.mem_append_right _ (List.mem_append_right _ (List.mem_append_right _ (List.mem_append_right _ (List.mem_append_right _ (List.mem_append_right _ (List.mem_append_right _ (List.mem_append_right _ (List.mem_append_right _ (List.mem_append_right _ (List.mem_append_right _ (List.mem_append_right _ (List.mem_append_right _ (List.mem_append_right _ (List.mem_append_left _ h))))))))))))))))))))))))))
theorem memL25 : ∀ w ∈ wL25, w ∈ wAll := fun w h => List.mem_append_right _ (List.mem_append_left _ (List.mem_append_right _ (List.mem_append_right _ (List.mem_append_right _ (List.mem_append_right _ (List.mem_append_right _ (List.mem_append_right _ (List.mem_append_right _ (List.mem_append_right _ (List.mem_append_right _ (List.mem_append_right _ (List.mem_append_right _ (List.mem_append_right _ (List.mem_append_right _ (List.mem_append_right _ (List.mem_append_right _ (List.mem_append_right _ (List.mem_append_right _ (List.mem_append_right _ (List.mem_append_right _ (List.mem_append_right _ (List.mem_append_right _ (List.mem_append_right _ (List.mem_append_right _ (List.mem_append_right _ (List.mem_append_right _ (List.mem_append_left _ h)))))))))))))))))))))))))))
theorem memL26 : ∀ w ∈ wL26, w ∈ wAll := fun w h => List.mem_append_right _ (List.mem_append_left _ (List.mem_append_right _ (List.mem_append_right _ (List.mem_append_right _ (List.mem_append_right _ (List.mem_append_right _ (List.mem_append_right _ (List.mem_append_right _ (List.mem_append_right _ (List.mem_append_right _ (List.mem_append_right _ (List.mem_append_right _ (List.mem_append_right _ (List.mem_append_right _ (List.mem_append_right _ (List.mem_append_right _ (List.mem_append_right _ (List.mem_append_right _ (List.mem_append_right _ (List.mem_append_right _ (List.mem_append_right _ (List.mem_append_right _ (List.mem_append_right _ (List.mem_append_right _ (List.mem_append_right _ (List.mem_append_right _ (List.mem_append_right _ (List.mem_append_left _ h))))))))))))))))))))))))))))
theorem memL27 : ∀ w ∈ wL27, w ∈ wAll := fun w h => List.mem_append_right _ (List.mem_append_left _ (List.mem_append_right _ (List.mem_append_right _ (List.mem_append_right _ (List.mem_append_right _ (List.mem_append_right _ (List.mem_append_right _ (List.mem_append_right _ (List.mem_append_right _ (List.mem_append_right _ (List.mem_append_right _ (List.mem_append_right _ (List.mem_append_right _ (List.mem_append_right _ (List.mem_append_right _ (List.mem_append_right _ (List.mem_append_right _ (List.mem_append_right _ (List.mem_append_right _ (List.mem_append_right _ (List.mem_append_right _ (List.mem_append_right _ (List.mem_append_right _ (List.mem_append_right _ (List.mem_append_right _ (List.mem_append_right _ (List.mem_append_right _ (List.mem_append_right _ (List.mem_append_left _ h)))))))))))))))))))))))))))))
theorem memL28 : ∀ w ∈ wL28, w ∈ wAll := fun w h => List.mem_append_right _ (List.mem_append_left _ (List.mem_append_right _ (List.mem_append_right _ (List.mem_append_right _ (List.mem_append_right _ (List.mem_append_right _ (List.mem_append_right _ (List.mem_append_right _ (List.mem_append_right _ (List.mem_append_right _ (List.mem_append_right _ (List.mem_append_right _ (List.mem_append_right _ (List.mem_append_right _ (List.mem_append_right _ (List.mem_append_right _ (List.mem_append_right _ (List.mem_append_right _ (List.mem_append_right _ (List.mem_append_right _ (List.mem_append_right _ (List.mem_append_right _ (List.mem_append_right _ (List.mem_append_right _ (List.mem_append_right _ (List.mem_append_right _ (List.mem_append_right _ (List.mem_append_right _ (List.mem_append_right _ (List.mem_append_left _ h))))))))))))))))))))))))))))))
theorem memL29 : ∀ w ∈ wL29, w ∈ wAll := fun w h => List.mem_append_right _ (List.mem_append_left _ (List.mem_append_right _ (List.mem_append_right _ (List.mem_append_right _ (List.mem_append_right _ (List.mem_append_right _ (List.mem_append_right _ (List.mem_append_right _ (List.mem_append_right _ (List.mem_append_right _ (List.mem_append_right _ (List.mem_append_right _ (List.mem_append_right _ (List.mem_append_right _ (List.mem_append_right _ (List.mem_append_right _ (List.mem_append_right _ (List.mem_append_right _ (List.mem_append_right _ (List.mem_append_right _ (List.mem_append_right _ (List.mem_append_right _ (List.mem_append_right _ (List.mem_append_right _ (List.mem_append_right _ (List.mem_append_right _ (List.mem_append_right _ (List.mem_append_right _ (List.mem_append_right _ (List.mem_append_right _ (h)))))))))))))))))))))))))))))))
theorem mW27 : (Jvm.Cond.classLink "CommandHouseLaw" (7 : Nat) "CommandHouse") ∈ wAll := memL0 _ (List.mem_of_getElem? (i := 0) rfl)
theorem mW28 : (Jvm.Cond.instantiable "CommandHouse" (5 : Nat)) ∈ wAll := memL0 _ (List.mem_of_getElem? (i := 1) rfl)
theorem mW1 : (Jvm.Cond.initialized "CommandHouse") ∈ wAll := memL0 _ (List.mem_of_getElem? (i := 2) rfl)
theorem mW32 : (Jvm.Cond.methodLink "CommandHouse" (1 : Nat) ({ cls := "java/lang/Object", name := "<init>", desc := "()V" } : Jvm.MethodName)) ∈ wAll := memL0 _ (List.mem_of_getElem? (i := 3) rfl)
theorem mW33 : (Jvm.Cond.instanceMethod ({ cls := "java/lang/Object", name := "<init>", desc := "()V" } : Jvm.MethodName)) ∈ wAll := memL0 _ (List.mem_of_getElem? (i := 4) rfl)
theorem mW34 : (Jvm.Cond.code ({ cls := "java/lang/Object", name := "<init>", desc := "()V" } : Jvm.MethodName) object_method_1_code (1 : Nat) (Option.none : Option Jvm.ClassFile.FieldType)) ∈ wAll := memL0 _ (List.mem_of_getElem? (i := 5) rfl)
theorem mW81 : (Jvm.Cond.arrayClass Jvm.ClassFile.FieldType.byte) ∈ wAll := memL0 _ (List.mem_of_getElem? (i := 6) rfl)
theorem mW628 : (Jvm.Cond.fieldLink "CommandHouse" (9 : Nat) "CommandHouse" "tape" "[B") ∈ wAll := memL0 _ (List.mem_of_getElem? (i := 7) rfl)
theorem mW35 : (Jvm.Cond.classLink "CommandHouse" (13 : Nat) "CommandHouse$Book") ∈ wAll := memL0 _ (List.mem_of_getElem? (i := 8) rfl)
theorem mW36 : (Jvm.Cond.instantiable "CommandHouse$Book" (11 : Nat)) ∈ wAll := memL0 _ (List.mem_of_getElem? (i := 9) rfl)
theorem mW2 : (Jvm.Cond.initialized "CommandHouse$Book") ∈ wAll := memL0 _ (List.mem_of_getElem? (i := 10) rfl)
theorem mW40 : (Jvm.Cond.methodLink "CommandHouse$Book" (3 : Nat) ({ cls := "java/lang/Object", name := "<init>", desc := "()V" } : Jvm.MethodName)) ∈ wAll := memL0 _ (List.mem_of_getElem? (i := 11) rfl)
theorem mW82 : (Jvm.Cond.arrayClass Jvm.ClassFile.FieldType.int) ∈ wAll := memL0 _ (List.mem_of_getElem? (i := 12) rfl)
theorem mW109 : (Jvm.Cond.fieldLink "CommandHouse$Book" (9 : Nat) "CommandHouse$Book" "diagnostics" "[I") ∈ wAll := memL0 _ (List.mem_of_getElem? (i := 13) rfl)
theorem mW41 : (Jvm.Cond.classLink "CommandHouse$Book" (15 : Nat) "CommandHouse$Bytes") ∈ wAll := memL0 _ (List.mem_of_getElem? (i := 14) rfl)
theorem mW42 : (Jvm.Cond.arrayOver (Jvm.ClassFile.FieldType.object "CommandHouse$Bytes")) ∈ wAll := memL0 _ (List.mem_of_getElem? (i := 15) rfl)
theorem mW113 : (Jvm.Cond.fieldLink "CommandHouse$Book" (17 : Nat) "CommandHouse$Book" "files" "[LCommandHouse$Bytes;") ∈ wAll := memL0 _ (List.mem_of_getElem? (i := 16) rfl)
theorem mW43 : (Jvm.Cond.instantiable "CommandHouse$Bytes" (4 : Nat)) ∈ wAll := memL0 _ (List.mem_of_getElem? (i := 17) rfl)
theorem mW3 : (Jvm.Cond.initialized "CommandHouse$Bytes") ∈ wAll := memL0 _ (List.mem_of_getElem? (i := 18) rfl)
theorem mW47 : (Jvm.Cond.methodLink "CommandHouse$Bytes" (1 : Nat) ({ cls := "java/lang/Object", name := "<init>", desc := "()V" } : Jvm.MethodName)) ∈ wAll := memL0 _ (List.mem_of_getElem? (i := 19) rfl)
theorem mW49 : (Jvm.Cond.fieldLink "CommandHouse$Bytes" (22 : Nat) "CommandHouse$Bytes" "b" "[B") ∈ wAll := memL1 _ (List.mem_of_getElem? (i := 0) rfl)
theorem mW66 : (Jvm.Cond.fieldLink "CommandHouse$Bytes" (32 : Nat) "CommandHouse$Bytes" "bound" "I") ∈ wAll := memL1 _ (List.mem_of_getElem? (i := 1) rfl)
theorem mW68 : (Jvm.Cond.fieldLink "CommandHouse$Bytes" (35 : Nat) "CommandHouse$Bytes" "name" "LCommandHouse$Bytes;") ∈ wAll := memL1 _ (List.mem_of_getElem? (i := 2) rfl)
theorem mW117 : (Jvm.Cond.fieldLink "CommandHouse$Book" (24 : Nat) "CommandHouse$Book" "out" "LCommandHouse$Bytes;") ∈ wAll := memL1 _ (List.mem_of_getElem? (i := 3) rfl)
theorem mW83 : (Jvm.Cond.fieldLinkNest "CommandHouse$Book" (28 : Nat) "CommandHouse" "NEW_LINE" "[B" "CommandHouse") ∈ wAll := memL1 _ (List.mem_of_getElem? (i := 4) rfl)
theorem mW88 : (Jvm.Cond.methodLink "CommandHouse$Bytes" (7 : Nat) ({ cls := "java/lang/Math", name := "min", desc := "(II)I" } : Jvm.MethodName)) ∈ wAll := memL1 _ (List.mem_of_getElem? (i := 5) rfl)
theorem mW89 : (Jvm.Cond.static ({ cls := "java/lang/Math", name := "min", desc := "(II)I" } : Jvm.MethodName)) ∈ wAll := memL1 _ (List.mem_of_getElem? (i := 6) rfl)
theorem mW4 : (Jvm.Cond.initialized "java/lang/Math") ∈ wAll := memL1 _ (List.mem_of_getElem? (i := 7) rfl)
theorem mW90 : (Jvm.Cond.code ({ cls := "java/lang/Math", name := "min", desc := "(II)I" } : Jvm.MethodName) prog_21_method_69_code (2 : Nat) (Option.some Jvm.ClassFile.FieldType.int)) ∈ wAll := memL1 _ (List.mem_of_getElem? (i := 8) rfl)
theorem mW91 : (Jvm.Cond.methodLink "CommandHouse$Bytes" (13 : Nat) ({ cls := "java/lang/Math", name := "max", desc := "(II)I" } : Jvm.MethodName)) ∈ wAll := memL1 _ (List.mem_of_getElem? (i := 9) rfl)
theorem mW92 : (Jvm.Cond.static ({ cls := "java/lang/Math", name := "max", desc := "(II)I" } : Jvm.MethodName)) ∈ wAll := memL1 _ (List.mem_of_getElem? (i := 10) rfl)
theorem mW93 : (Jvm.Cond.code ({ cls := "java/lang/Math", name := "max", desc := "(II)I" } : Jvm.MethodName) prog_21_method_65_code (2 : Nat) (Option.some Jvm.ClassFile.FieldType.int)) ∈ wAll := memL1 _ (List.mem_of_getElem? (i := 11) rfl)
theorem mW57 : (Jvm.Cond.fieldLink "CommandHouse$Bytes" (16 : Nat) "CommandHouse$Bytes" "n" "I") ∈ wAll := memL1 _ (List.mem_of_getElem? (i := 12) rfl)
theorem mW94 : (Jvm.Cond.methodLink "CommandHouse$Bytes" (26 : Nat) ({ cls := "java/lang/System", name := "arraycopy", desc := "(Ljava/lang/Object;ILjava/lang/Object;II)V" } : Jvm.MethodName)) ∈ wAll := memL1 _ (List.mem_of_getElem? (i := 13) rfl)
theorem mW96 : (Jvm.Cond.native ({ cls := "java/lang/System", name := "arraycopy", desc := "(Ljava/lang/Object;ILjava/lang/Object;II)V" } : Jvm.MethodName)) ∈ wAll := memL1 _ (List.mem_of_getElem? (i := 14) rfl)
theorem mW95 : (Jvm.Cond.static ({ cls := "java/lang/System", name := "arraycopy", desc := "(Ljava/lang/Object;ILjava/lang/Object;II)V" } : Jvm.MethodName)) ∈ wAll := memL1 _ (List.mem_of_getElem? (i := 15) rfl)
theorem mW5 : (Jvm.Cond.initialized "java/lang/System") ∈ wAll := memL1 _ (List.mem_of_getElem? (i := 16) rfl)
theorem mW120 : (Jvm.Cond.fieldLink "CommandHouse$Book" (35 : Nat) "CommandHouse$Book" "nothing" "LCommandHouse$Bytes;") ∈ wAll := memL1 _ (List.mem_of_getElem? (i := 17) rfl)
theorem mW631 : (Jvm.Cond.fieldLink "CommandHouse" (16 : Nat) "CommandHouse" "book" "LCommandHouse$Book;") ∈ wAll := memL1 _ (List.mem_of_getElem? (i := 18) rfl)
theorem mW147 : (Jvm.Cond.classLink "CommandHouse" (20 : Nat) "CommandHouse$Words") ∈ wAll := memL1 _ (List.mem_of_getElem? (i := 19) rfl)
theorem mW148 : (Jvm.Cond.instantiable "CommandHouse$Words" (9 : Nat)) ∈ wAll := memL2 _ (List.mem_of_getElem? (i := 0) rfl)
theorem mW6 : (Jvm.Cond.initialized "CommandHouse$Words") ∈ wAll := memL2 _ (List.mem_of_getElem? (i := 1) rfl)
theorem mW152 : (Jvm.Cond.methodLink "CommandHouse$Words" (3 : Nat) ({ cls := "java/lang/Object", name := "<init>", desc := "()V" } : Jvm.MethodName)) ∈ wAll := memL2 _ (List.mem_of_getElem? (i := 2) rfl)
theorem mW153 : (Jvm.Cond.classLink "CommandHouse$Words" (9 : Nat) "CommandHouse$Pattern") ∈ wAll := memL2 _ (List.mem_of_getElem? (i := 3) rfl)
theorem mW154 : (Jvm.Cond.instantiable "CommandHouse$Pattern" (9 : Nat)) ∈ wAll := memL2 _ (List.mem_of_getElem? (i := 4) rfl)
theorem mW7 : (Jvm.Cond.initialized "CommandHouse$Pattern") ∈ wAll := memL2 _ (List.mem_of_getElem? (i := 5) rfl)
theorem mW158 : (Jvm.Cond.methodLink "CommandHouse$Pattern" (3 : Nat) ({ cls := "java/lang/Object", name := "<init>", desc := "()V" } : Jvm.MethodName)) ∈ wAll := memL2 _ (List.mem_of_getElem? (i := 6) rfl)
theorem mW159 : (Jvm.Cond.fieldLink "CommandHouse$Pattern" (9 : Nat) "CommandHouse$Pattern" "b" "[B") ∈ wAll := memL2 _ (List.mem_of_getElem? (i := 7) rfl)
theorem mW160 : (Jvm.Cond.fieldLink "CommandHouse$Pattern" (15 : Nat) "CommandHouse$Pattern" "quoted" "[B") ∈ wAll := memL2 _ (List.mem_of_getElem? (i := 8) rfl)
theorem mW162 : (Jvm.Cond.fieldLink "CommandHouse$Pattern" (18 : Nat) "CommandHouse$Pattern" "kinds" "[I") ∈ wAll := memL2 _ (List.mem_of_getElem? (i := 9) rfl)
theorem mW163 : (Jvm.Cond.fieldLink "CommandHouse$Pattern" (22 : Nat) "CommandHouse$Pattern" "details" "[I") ∈ wAll := memL2 _ (List.mem_of_getElem? (i := 10) rfl)
theorem mW165 : (Jvm.Cond.fieldLink "CommandHouse$Pattern" (25 : Nat) "CommandHouse$Pattern" "reached" "[B") ∈ wAll := memL2 _ (List.mem_of_getElem? (i := 11) rfl)
theorem mW187 : (Jvm.Cond.arrayClass Jvm.ClassFile.FieldType.long) ∈ wAll := memL2 _ (List.mem_of_getElem? (i := 12) rfl)
theorem mW166 : (Jvm.Cond.fieldLink "CommandHouse$Pattern" (28 : Nat) "CommandHouse$Pattern" "bits" "[J") ∈ wAll := memL2 _ (List.mem_of_getElem? (i := 13) rfl)
theorem mW253 : (Jvm.Cond.fieldLink "CommandHouse$Words" (12 : Nat) "CommandHouse$Words" "pattern" "LCommandHouse$Pattern;") ∈ wAll := memL2 _ (List.mem_of_getElem? (i := 14) rfl)
theorem mW188 : (Jvm.Cond.classLink "CommandHouse$Words" (18 : Nat) "CommandHouse$Expression") ∈ wAll := memL2 _ (List.mem_of_getElem? (i := 15) rfl)
theorem mW189 : (Jvm.Cond.instantiable "CommandHouse$Expression" (9 : Nat)) ∈ wAll := memL2 _ (List.mem_of_getElem? (i := 16) rfl)
theorem mW8 : (Jvm.Cond.initialized "CommandHouse$Expression") ∈ wAll := memL2 _ (List.mem_of_getElem? (i := 17) rfl)
theorem mW193 : (Jvm.Cond.methodLink "CommandHouse$Expression" (3 : Nat) ({ cls := "java/lang/Object", name := "<init>", desc := "()V" } : Jvm.MethodName)) ∈ wAll := memL2 _ (List.mem_of_getElem? (i := 18) rfl)
theorem mW194 : (Jvm.Cond.fieldLink "CommandHouse$Expression" (9 : Nat) "CommandHouse$Expression" "values" "[I") ∈ wAll := memL2 _ (List.mem_of_getElem? (i := 19) rfl)
theorem mW195 : (Jvm.Cond.fieldLink "CommandHouse$Expression" (15 : Nat) "CommandHouse$Expression" "signs" "[I") ∈ wAll := memL3 _ (List.mem_of_getElem? (i := 0) rfl)
theorem mW200 : (Jvm.Cond.fieldLink "CommandHouse$Expression" (18 : Nat) "CommandHouse$Expression" "s" "[B") ∈ wAll := memL3 _ (List.mem_of_getElem? (i := 1) rfl)
theorem mW254 : (Jvm.Cond.fieldLink "CommandHouse$Words" (21 : Nat) "CommandHouse$Words" "expression" "LCommandHouse$Expression;") ∈ wAll := memL3 _ (List.mem_of_getElem? (i := 2) rfl)
theorem mW222 : (Jvm.Cond.classLink "CommandHouse$Words" (25 : Nat) "java/util/ArrayList") ∈ wAll := memL3 _ (List.mem_of_getElem? (i := 3) rfl)
theorem mW223 : (Jvm.Cond.instantiable "java/util/ArrayList" (3 : Nat)) ∈ wAll := memL3 _ (List.mem_of_getElem? (i := 4) rfl)
theorem mW11 : (Jvm.Cond.initialized "java/util/ArrayList") ∈ wAll := memL3 _ (List.mem_of_getElem? (i := 5) rfl)
theorem mW233 : (Jvm.Cond.methodLink "java/util/AbstractCollection" (1 : Nat) ({ cls := "java/lang/Object", name := "<init>", desc := "()V" } : Jvm.MethodName)) ∈ wAll := memL3 _ (List.mem_of_getElem? (i := 6) rfl)
theorem mW238 : (Jvm.Cond.fieldLink "java/util/AbstractList" (7 : Nat) "java/util/AbstractList" "modCount" "I") ∈ wAll := memL3 _ (List.mem_of_getElem? (i := 7) rfl)
theorem mW234 : (Jvm.Cond.fieldLink "java/util/ArrayList" (39 : Nat) "java/util/ArrayList" "DEFAULTCAPACITY_EMPTY_ELEMENTDATA" "[Ljava/lang/Object;") ∈ wAll := memL3 _ (List.mem_of_getElem? (i := 8) rfl)
theorem mW236 : (Jvm.Cond.fieldLink "java/util/ArrayList" (9 : Nat) "java/util/ArrayList" "elementData" "[Ljava/lang/Object;") ∈ wAll := memL3 _ (List.mem_of_getElem? (i := 9) rfl)
theorem mW255 : (Jvm.Cond.fieldLink "CommandHouse$Words" (28 : Nat) "CommandHouse$Words" "builders" "Ljava/util/ArrayList;") ∈ wAll := memL3 _ (List.mem_of_getElem? (i := 10) rfl)
theorem mW257 : (Jvm.Cond.fieldLink "CommandHouse$Words" (32 : Nat) "CommandHouse$Words" "digits" "[B") ∈ wAll := memL3 _ (List.mem_of_getElem? (i := 11) rfl)
theorem mW248 : (Jvm.Cond.classLink "CommandHouse$Words" (36 : Nat) "CommandHouse$Bytes") ∈ wAll := memL3 _ (List.mem_of_getElem? (i := 12) rfl)
theorem mW258 : (Jvm.Cond.fieldLink "CommandHouse$Words" (41 : Nat) "CommandHouse$Words" "decimal" "LCommandHouse$Bytes;") ∈ wAll := memL3 _ (List.mem_of_getElem? (i := 13) rfl)
theorem mW250 : (Jvm.Cond.fieldLink "CommandHouse$Words" (45 : Nat) "CommandHouse$Words" "book" "LCommandHouse$Book;") ∈ wAll := memL3 _ (List.mem_of_getElem? (i := 14) rfl)
theorem mW121 : (Jvm.Cond.fieldLinkNest "CommandHouse$Words" (49 : Nat) "CommandHouse$Book" "nothing" "LCommandHouse$Bytes;" "CommandHouse") ∈ wAll := memL3 _ (List.mem_of_getElem? (i := 15) rfl)
theorem mW259 : (Jvm.Cond.fieldLink "CommandHouse$Words" (54 : Nat) "CommandHouse$Words" "nothing" "LCommandHouse$Bytes;") ∈ wAll := memL3 _ (List.mem_of_getElem? (i := 16) rfl)
theorem mW279 : (Jvm.Cond.classLink "CommandHouse" (25 : Nat) "CommandHouse$Builtins") ∈ wAll := memL3 _ (List.mem_of_getElem? (i := 17) rfl)
theorem mW280 : (Jvm.Cond.instantiable "CommandHouse$Builtins" (2 : Nat)) ∈ wAll := memL3 _ (List.mem_of_getElem? (i := 18) rfl)
theorem mW12 : (Jvm.Cond.initialized "CommandHouse$Builtins") ∈ wAll := memL3 _ (List.mem_of_getElem? (i := 19) rfl)
theorem mW284 : (Jvm.Cond.methodLink "CommandHouse$Builtins" (3 : Nat) ({ cls := "java/lang/Object", name := "<init>", desc := "()V" } : Jvm.MethodName)) ∈ wAll := memL4 _ (List.mem_of_getElem? (i := 0) rfl)
theorem mW285 : (Jvm.Cond.fieldLink "CommandHouse$Builtins" (9 : Nat) "CommandHouse$Builtins" "book" "LCommandHouse$Book;") ∈ wAll := memL4 _ (List.mem_of_getElem? (i := 1) rfl)
theorem mW293 : (Jvm.Cond.classLink "CommandHouse" (28 : Nat) "CommandHouse$Machine") ∈ wAll := memL4 _ (List.mem_of_getElem? (i := 2) rfl)
theorem mW294 : (Jvm.Cond.instantiable "CommandHouse$Machine" (14 : Nat)) ∈ wAll := memL4 _ (List.mem_of_getElem? (i := 3) rfl)
theorem mW13 : (Jvm.Cond.initialized "CommandHouse$Machine") ∈ wAll := memL4 _ (List.mem_of_getElem? (i := 4) rfl)
theorem mW298 : (Jvm.Cond.methodLink "CommandHouse$Machine" (3 : Nat) ({ cls := "java/lang/Object", name := "<init>", desc := "()V" } : Jvm.MethodName)) ∈ wAll := memL4 _ (List.mem_of_getElem? (i := 5) rfl)
theorem mW299 : (Jvm.Cond.classLink "CommandHouse$Machine" (9 : Nat) "java/util/ArrayList") ∈ wAll := memL4 _ (List.mem_of_getElem? (i := 6) rfl)
theorem mW580 : (Jvm.Cond.fieldLink "CommandHouse$Machine" (12 : Nat) "CommandHouse$Machine" "frames" "Ljava/util/ArrayList;") ∈ wAll := memL4 _ (List.mem_of_getElem? (i := 7) rfl)
theorem mW301 : (Jvm.Cond.classLink "CommandHouse$Machine" (18 : Nat) "CommandHouse$State") ∈ wAll := memL4 _ (List.mem_of_getElem? (i := 8) rfl)
theorem mW302 : (Jvm.Cond.instantiable "CommandHouse$State" (16 : Nat)) ∈ wAll := memL4 _ (List.mem_of_getElem? (i := 9) rfl)
theorem mW14 : (Jvm.Cond.initialized "CommandHouse$State") ∈ wAll := memL4 _ (List.mem_of_getElem? (i := 10) rfl)
theorem mW306 : (Jvm.Cond.methodLink "CommandHouse$State" (3 : Nat) ({ cls := "java/lang/Object", name := "<init>", desc := "()V" } : Jvm.MethodName)) ∈ wAll := memL4 _ (List.mem_of_getElem? (i := 11) rfl)
theorem mW307 : (Jvm.Cond.classLink "CommandHouse$State" (9 : Nat) "CommandHouse$Bytes") ∈ wAll := memL4 _ (List.mem_of_getElem? (i := 12) rfl)
theorem mW310 : (Jvm.Cond.fieldLink "CommandHouse$State" (11 : Nat) "CommandHouse$State" "sources" "[LCommandHouse$Bytes;") ∈ wAll := memL4 _ (List.mem_of_getElem? (i := 13) rfl)
theorem mW311 : (Jvm.Cond.fieldLink "CommandHouse$State" (17 : Nat) "CommandHouse$State" "nameFrom" "[I") ∈ wAll := memL4 _ (List.mem_of_getElem? (i := 14) rfl)
theorem mW312 : (Jvm.Cond.fieldLink "CommandHouse$State" (21 : Nat) "CommandHouse$State" "nameTo" "[I") ∈ wAll := memL4 _ (List.mem_of_getElem? (i := 15) rfl)
theorem mW313 : (Jvm.Cond.fieldLink "CommandHouse$State" (24 : Nat) "CommandHouse$State" "values" "[LCommandHouse$Bytes;") ∈ wAll := memL4 _ (List.mem_of_getElem? (i := 16) rfl)
theorem mW315 : (Jvm.Cond.fieldLink "CommandHouse$State" (27 : Nat) "CommandHouse$State" "parameters" "[LCommandHouse$Bytes;") ∈ wAll := memL4 _ (List.mem_of_getElem? (i := 17) rfl)
theorem mW308 : (Jvm.Cond.classLink "CommandHouse$State" (30 : Nat) "CommandHouse$Script") ∈ wAll := memL4 _ (List.mem_of_getElem? (i := 18) rfl)
theorem mW309 : (Jvm.Cond.arrayOver (Jvm.ClassFile.FieldType.object "CommandHouse$Script")) ∈ wAll := memL4 _ (List.mem_of_getElem? (i := 19) rfl)
theorem mW320 : (Jvm.Cond.fieldLink "CommandHouse$State" (32 : Nat) "CommandHouse$State" "scripts" "[LCommandHouse$Script;") ∈ wAll := memL5 _ (List.mem_of_getElem? (i := 0) rfl)
theorem mW321 : (Jvm.Cond.fieldLink "CommandHouse$State" (36 : Nat) "CommandHouse$State" "functionFrom" "[I") ∈ wAll := memL5 _ (List.mem_of_getElem? (i := 1) rfl)
theorem mW322 : (Jvm.Cond.fieldLink "CommandHouse$State" (39 : Nat) "CommandHouse$State" "functionTo" "[I") ∈ wAll := memL5 _ (List.mem_of_getElem? (i := 2) rfl)
theorem mW323 : (Jvm.Cond.fieldLink "CommandHouse$State" (42 : Nat) "CommandHouse$State" "entries" "[I") ∈ wAll := memL5 _ (List.mem_of_getElem? (i := 3) rfl)
theorem mW582 : (Jvm.Cond.fieldLink "CommandHouse$Machine" (21 : Nat) "CommandHouse$Machine" "first" "LCommandHouse$State;") ∈ wAll := memL5 _ (List.mem_of_getElem? (i := 4) rfl)
theorem mW370 : (Jvm.Cond.classLink "CommandHouse$Machine" (25 : Nat) "CommandHouse$Bytes") ∈ wAll := memL5 _ (List.mem_of_getElem? (i := 5) rfl)
theorem mW583 : (Jvm.Cond.fieldLink "CommandHouse$Machine" (27 : Nat) "CommandHouse$Machine" "none" "[LCommandHouse$Bytes;") ∈ wAll := memL5 _ (List.mem_of_getElem? (i := 6) rfl)
theorem mW584 : (Jvm.Cond.fieldLink "CommandHouse$Machine" (31 : Nat) "CommandHouse$Machine" "state" "LCommandHouse$State;") ∈ wAll := memL5 _ (List.mem_of_getElem? (i := 7) rfl)
theorem mW595 : (Jvm.Cond.fieldLink "CommandHouse$Machine" (34 : Nat) "CommandHouse$Machine" "wrongPlace" "I") ∈ wAll := memL5 _ (List.mem_of_getElem? (i := 8) rfl)
theorem mW577 : (Jvm.Cond.fieldLink "CommandHouse$Machine" (38 : Nat) "CommandHouse$Machine" "book" "LCommandHouse$Book;") ∈ wAll := memL5 _ (List.mem_of_getElem? (i := 9) rfl)
theorem mW578 : (Jvm.Cond.fieldLink "CommandHouse$Machine" (42 : Nat) "CommandHouse$Machine" "words" "LCommandHouse$Words;") ∈ wAll := memL5 _ (List.mem_of_getElem? (i := 10) rfl)
theorem mW579 : (Jvm.Cond.fieldLink "CommandHouse$Machine" (46 : Nat) "CommandHouse$Machine" "builtins" "LCommandHouse$Builtins;") ∈ wAll := memL5 _ (List.mem_of_getElem? (i := 11) rfl)
theorem mW118 : (Jvm.Cond.fieldLinkNest "CommandHouse$Machine" (50 : Nat) "CommandHouse$Book" "out" "LCommandHouse$Bytes;" "CommandHouse") ∈ wAll := memL5 _ (List.mem_of_getElem? (i := 12) rfl)
theorem mW593 : (Jvm.Cond.fieldLink "CommandHouse$Machine" (56 : Nat) "CommandHouse$Machine" "out" "LCommandHouse$Bytes;") ∈ wAll := memL5 _ (List.mem_of_getElem? (i := 13) rfl)
theorem mW371 : (Jvm.Cond.classLink "CommandHouse$Machine" (57 : Nat) "CommandHouse$Input") ∈ wAll := memL5 _ (List.mem_of_getElem? (i := 14) rfl)
theorem mW372 : (Jvm.Cond.instantiable "CommandHouse$Input" (4 : Nat)) ∈ wAll := memL5 _ (List.mem_of_getElem? (i := 15) rfl)
theorem mW15 : (Jvm.Cond.initialized "CommandHouse$Input") ∈ wAll := memL5 _ (List.mem_of_getElem? (i := 16) rfl)
theorem mW122 : (Jvm.Cond.fieldLinkNest "CommandHouse$Machine" (59 : Nat) "CommandHouse$Book" "nothing" "LCommandHouse$Bytes;" "CommandHouse") ∈ wAll := memL5 _ (List.mem_of_getElem? (i := 17) rfl)
theorem mW376 : (Jvm.Cond.methodLink "CommandHouse$Input" (1 : Nat) ({ cls := "java/lang/Object", name := "<init>", desc := "()V" } : Jvm.MethodName)) ∈ wAll := memL5 _ (List.mem_of_getElem? (i := 18) rfl)
theorem mW381 : (Jvm.Cond.fieldLink "CommandHouse$Input" (13 : Nat) "CommandHouse$Input" "source" "LCommandHouse$Bytes;") ∈ wAll := memL5 _ (List.mem_of_getElem? (i := 19) rfl)
theorem mW50 : (Jvm.Cond.fieldLinkNest "CommandHouse$Input" (17 : Nat) "CommandHouse$Bytes" "b" "[B" "CommandHouse") ∈ wAll := memL6 _ (List.mem_of_getElem? (i := 0) rfl)
theorem mW382 : (Jvm.Cond.fieldLink "CommandHouse$Input" (23 : Nat) "CommandHouse$Input" "text" "[B") ∈ wAll := memL6 _ (List.mem_of_getElem? (i := 1) rfl)
theorem mW58 : (Jvm.Cond.fieldLinkNest "CommandHouse$Input" (26 : Nat) "CommandHouse$Bytes" "n" "I" "CommandHouse") ∈ wAll := memL6 _ (List.mem_of_getElem? (i := 2) rfl)
theorem mW383 : (Jvm.Cond.fieldLink "CommandHouse$Input" (30 : Nat) "CommandHouse$Input" "end" "I") ∈ wAll := memL6 _ (List.mem_of_getElem? (i := 3) rfl)
theorem mW384 : (Jvm.Cond.fieldLink "CommandHouse$Input" (33 : Nat) "CommandHouse$Input" "taken" "I") ∈ wAll := memL6 _ (List.mem_of_getElem? (i := 4) rfl)
theorem mW591 : (Jvm.Cond.fieldLink "CommandHouse$Machine" (65 : Nat) "CommandHouse$Machine" "in" "LCommandHouse$Input;") ∈ wAll := memL6 _ (List.mem_of_getElem? (i := 5) rfl)
theorem mW395 : (Jvm.Cond.classLink "CommandHouse$Machine" (69 : Nat) "CommandHouse$Script") ∈ wAll := memL6 _ (List.mem_of_getElem? (i := 6) rfl)
theorem mW396 : (Jvm.Cond.instantiable "CommandHouse$Script" (15 : Nat)) ∈ wAll := memL6 _ (List.mem_of_getElem? (i := 7) rfl)
theorem mW16 : (Jvm.Cond.initialized "CommandHouse$Script") ∈ wAll := memL6 _ (List.mem_of_getElem? (i := 8) rfl)
theorem mW400 : (Jvm.Cond.methodLink "CommandHouse$Script" (3 : Nat) ({ cls := "java/lang/Object", name := "<init>", desc := "()V" } : Jvm.MethodName)) ∈ wAll := memL6 _ (List.mem_of_getElem? (i := 9) rfl)
theorem mW416 : (Jvm.Cond.fieldLink "CommandHouse$Script" (9 : Nat) "CommandHouse$Script" "wrongAt" "I") ∈ wAll := memL6 _ (List.mem_of_getElem? (i := 10) rfl)
theorem mW401 : (Jvm.Cond.fieldLink "CommandHouse$Script" (15 : Nat) "CommandHouse$Script" "text" "LCommandHouse$Bytes;") ∈ wAll := memL6 _ (List.mem_of_getElem? (i := 11) rfl)
theorem mW48 : (Jvm.Cond.fieldLinkNest "CommandHouse$Script" (19 : Nat) "CommandHouse$Bytes" "b" "[B" "CommandHouse") ∈ wAll := memL6 _ (List.mem_of_getElem? (i := 12) rfl)
theorem mW404 : (Jvm.Cond.fieldLink "CommandHouse$Script" (25 : Nat) "CommandHouse$Script" "src" "[B") ∈ wAll := memL6 _ (List.mem_of_getElem? (i := 13) rfl)
theorem mW56 : (Jvm.Cond.fieldLinkNest "CommandHouse$Script" (28 : Nat) "CommandHouse$Bytes" "n" "I" "CommandHouse") ∈ wAll := memL6 _ (List.mem_of_getElem? (i := 14) rfl)
theorem mW407 : (Jvm.Cond.fieldLink "CommandHouse$Script" (31 : Nat) "CommandHouse$Script" "n" "I") ∈ wAll := memL6 _ (List.mem_of_getElem? (i := 15) rfl)
theorem mW412 : (Jvm.Cond.fieldLink "CommandHouse$Script" (32 : Nat) "CommandHouse$Script" "code" "[I") ∈ wAll := memL6 _ (List.mem_of_getElem? (i := 16) rfl)
theorem mW422 : (Jvm.Cond.fieldLink "CommandHouse$Script" (36 : Nat) "CommandHouse$Script" "isMain" "Z") ∈ wAll := memL6 _ (List.mem_of_getElem? (i := 17) rfl)
theorem mW588 : (Jvm.Cond.fieldLink "CommandHouse$Machine" (74 : Nat) "CommandHouse$Machine" "script" "LCommandHouse$Script;") ∈ wAll := memL6 _ (List.mem_of_getElem? (i := 18) rfl)
theorem mW455 : (Jvm.Cond.classLink "CommandHouse$Machine" (78 : Nat) "CommandHouse$Frame") ∈ wAll := memL6 _ (List.mem_of_getElem? (i := 19) rfl)
theorem mW456 : (Jvm.Cond.instantiable "CommandHouse$Frame" (19 : Nat)) ∈ wAll := memL7 _ (List.mem_of_getElem? (i := 0) rfl)
theorem mW17 : (Jvm.Cond.initialized "CommandHouse$Frame") ∈ wAll := memL7 _ (List.mem_of_getElem? (i := 1) rfl)
theorem mW460 : (Jvm.Cond.methodLink "CommandHouse$Frame" (1 : Nat) ({ cls := "java/lang/Object", name := "<init>", desc := "()V" } : Jvm.MethodName)) ∈ wAll := memL7 _ (List.mem_of_getElem? (i := 2) rfl)
theorem mW240 : (Jvm.Cond.sameField "java/util/ArrayList" "java/util/AbstractList" "modCount" "I") ∈ wAll := memL7 _ (List.mem_of_getElem? (i := 3) rfl)
theorem mW239 : (Jvm.Cond.fieldLink "java/util/ArrayList" (63 : Nat) "java/util/ArrayList" "modCount" "I") ∈ wAll := memL7 _ (List.mem_of_getElem? (i := 4) rfl)
theorem mW237 : (Jvm.Cond.fieldLink "java/util/ArrayList" (48 : Nat) "java/util/ArrayList" "size" "I") ∈ wAll := memL7 _ (List.mem_of_getElem? (i := 5) rfl)
theorem mW575 : (Jvm.Cond.methodLink "java/util/ArrayList" (79 : Nat) ({ cls := "java/lang/Math", name := "max", desc := "(II)I" } : Jvm.MethodName)) ∈ wAll := memL7 _ (List.mem_of_getElem? (i := 6) rfl)
theorem mW576 : (Jvm.Cond.classLink "java/util/ArrayList" (7 : Nat) "java/lang/Object") ∈ wAll := memL7 _ (List.mem_of_getElem? (i := 7) rfl)
theorem mW571 : (Jvm.Cond.arrayOver (Jvm.ClassFile.FieldType.object "java/lang/Object")) ∈ wAll := memL7 _ (List.mem_of_getElem? (i := 8) rfl)
theorem mW2875 : (Jvm.Cond.castable "CommandHouse$Frame" "java/lang/Object") ∈ wAll := memL7 _ (List.mem_of_getElem? (i := 9) rfl)
theorem mW632 : (Jvm.Cond.fieldLink "CommandHouse" (33 : Nat) "CommandHouse" "machine" "LCommandHouse$Machine;") ∈ wAll := memL7 _ (List.mem_of_getElem? (i := 10) rfl)
theorem mW251 : (Jvm.Cond.fieldLinkNest "CommandHouse" (37 : Nat) "CommandHouse$Words" "machine" "LCommandHouse$Machine;" "CommandHouse") ∈ wAll := memL7 _ (List.mem_of_getElem? (i := 11) rfl)
theorem mW286 : (Jvm.Cond.fieldLinkNest "CommandHouse" (38 : Nat) "CommandHouse$Builtins" "machine" "LCommandHouse$Machine;" "CommandHouse") ∈ wAll := memL7 _ (List.mem_of_getElem? (i := 12) rfl)
theorem mW626 : (Jvm.Cond.classLink "CommandHouse" (39 : Nat) "CommandHouse$Bytes") ∈ wAll := memL7 _ (List.mem_of_getElem? (i := 13) rfl)
theorem mW630 : (Jvm.Cond.fieldLink "CommandHouse" (44 : Nat) "CommandHouse" "fed" "LCommandHouse$Bytes;") ∈ wAll := memL7 _ (List.mem_of_getElem? (i := 14) rfl)
theorem mW46 : (Jvm.Cond.code ({ cls := "CommandHouse$Bytes", name := "<init>", desc := "(ILCommandHouse$Bytes;)V" } : Jvm.MethodName) prog_5_method_2_code (3 : Nat) (Option.none : Option Jvm.ClassFile.FieldType)) ∈ wAll := memL7 _ (List.mem_of_getElem? (i := 15) rfl)
theorem mW44 : (Jvm.Cond.methodLinkNest "CommandHouse$Book" (21 : Nat) ({ cls := "CommandHouse$Bytes", name := "<init>", desc := "(ILCommandHouse$Bytes;)V" } : Jvm.MethodName) "CommandHouse") ∈ wAll := memL7 _ (List.mem_of_getElem? (i := 16) rfl)
theorem mW45 : (Jvm.Cond.instanceMethod ({ cls := "CommandHouse$Bytes", name := "<init>", desc := "(ILCommandHouse$Bytes;)V" } : Jvm.MethodName)) ∈ wAll := memL7 _ (List.mem_of_getElem? (i := 17) rfl)
theorem mW87 : (Jvm.Cond.code ({ cls := "CommandHouse$Bytes", name := "<init>", desc := "([BII)V" } : Jvm.MethodName) prog_5_method_1_code (5 : Nat) (Option.none : Option Jvm.ClassFile.FieldType)) ∈ wAll := memL7 _ (List.mem_of_getElem? (i := 18) rfl)
theorem mW85 : (Jvm.Cond.methodLinkNest "CommandHouse$Book" (32 : Nat) ({ cls := "CommandHouse$Bytes", name := "<init>", desc := "([BII)V" } : Jvm.MethodName) "CommandHouse") ∈ wAll := memL7 _ (List.mem_of_getElem? (i := 19) rfl)
theorem mW86 : (Jvm.Cond.instanceMethod ({ cls := "CommandHouse$Bytes", name := "<init>", desc := "([BII)V" } : Jvm.MethodName)) ∈ wAll := memL8 _ (List.mem_of_getElem? (i := 0) rfl)
theorem mW39 : (Jvm.Cond.code ({ cls := "CommandHouse$Book", name := "<init>", desc := "()V" } : Jvm.MethodName) prog_2_method_1_code (1 : Nat) (Option.none : Option Jvm.ClassFile.FieldType)) ∈ wAll := memL8 _ (List.mem_of_getElem? (i := 1) rfl)
theorem mW37 : (Jvm.Cond.methodLinkNest "CommandHouse" (15 : Nat) ({ cls := "CommandHouse$Book", name := "<init>", desc := "()V" } : Jvm.MethodName) "CommandHouse") ∈ wAll := memL8 _ (List.mem_of_getElem? (i := 2) rfl)
theorem mW38 : (Jvm.Cond.instanceMethod ({ cls := "CommandHouse$Book", name := "<init>", desc := "()V" } : Jvm.MethodName)) ∈ wAll := memL8 _ (List.mem_of_getElem? (i := 3) rfl)
theorem mW157 : (Jvm.Cond.code ({ cls := "CommandHouse$Pattern", name := "<init>", desc := "()V" } : Jvm.MethodName) prog_10_method_1_code (1 : Nat) (Option.none : Option Jvm.ClassFile.FieldType)) ∈ wAll := memL8 _ (List.mem_of_getElem? (i := 4) rfl)
theorem mW155 : (Jvm.Cond.methodLinkNest "CommandHouse$Words" (11 : Nat) ({ cls := "CommandHouse$Pattern", name := "<init>", desc := "()V" } : Jvm.MethodName) "CommandHouse") ∈ wAll := memL8 _ (List.mem_of_getElem? (i := 5) rfl)
theorem mW156 : (Jvm.Cond.instanceMethod ({ cls := "CommandHouse$Pattern", name := "<init>", desc := "()V" } : Jvm.MethodName)) ∈ wAll := memL8 _ (List.mem_of_getElem? (i := 6) rfl)
theorem mW192 : (Jvm.Cond.code ({ cls := "CommandHouse$Expression", name := "<init>", desc := "()V" } : Jvm.MethodName) prog_6_method_1_code (1 : Nat) (Option.none : Option Jvm.ClassFile.FieldType)) ∈ wAll := memL8 _ (List.mem_of_getElem? (i := 7) rfl)
theorem mW190 : (Jvm.Cond.methodLinkNest "CommandHouse$Words" (20 : Nat) ({ cls := "CommandHouse$Expression", name := "<init>", desc := "()V" } : Jvm.MethodName) "CommandHouse") ∈ wAll := memL8 _ (List.mem_of_getElem? (i := 8) rfl)
theorem mW191 : (Jvm.Cond.instanceMethod ({ cls := "CommandHouse$Expression", name := "<init>", desc := "()V" } : Jvm.MethodName)) ∈ wAll := memL8 _ (List.mem_of_getElem? (i := 9) rfl)
theorem mW232 : (Jvm.Cond.code ({ cls := "java/util/AbstractCollection", name := "<init>", desc := "()V" } : Jvm.MethodName) prog_28_method_1_code (1 : Nat) (Option.none : Option Jvm.ClassFile.FieldType)) ∈ wAll := memL8 _ (List.mem_of_getElem? (i := 10) rfl)
theorem mW9 : (Jvm.Cond.initialized "java/util/AbstractCollection") ∈ wAll := memL8 _ (List.mem_of_getElem? (i := 11) rfl)
theorem mW230 : (Jvm.Cond.methodLink "java/util/AbstractList" (1 : Nat) ({ cls := "java/util/AbstractCollection", name := "<init>", desc := "()V" } : Jvm.MethodName)) ∈ wAll := memL8 _ (List.mem_of_getElem? (i := 12) rfl)
theorem mW231 : (Jvm.Cond.instanceMethod ({ cls := "java/util/AbstractCollection", name := "<init>", desc := "()V" } : Jvm.MethodName)) ∈ wAll := memL8 _ (List.mem_of_getElem? (i := 13) rfl)
theorem mW229 : (Jvm.Cond.code ({ cls := "java/util/AbstractList", name := "<init>", desc := "()V" } : Jvm.MethodName) prog_29_method_1_code (1 : Nat) (Option.none : Option Jvm.ClassFile.FieldType)) ∈ wAll := memL8 _ (List.mem_of_getElem? (i := 14) rfl)
theorem mW10 : (Jvm.Cond.initialized "java/util/AbstractList") ∈ wAll := memL8 _ (List.mem_of_getElem? (i := 15) rfl)
theorem mW227 : (Jvm.Cond.methodLink "java/util/ArrayList" (1 : Nat) ({ cls := "java/util/AbstractList", name := "<init>", desc := "()V" } : Jvm.MethodName)) ∈ wAll := memL8 _ (List.mem_of_getElem? (i := 16) rfl)
theorem mW228 : (Jvm.Cond.instanceMethod ({ cls := "java/util/AbstractList", name := "<init>", desc := "()V" } : Jvm.MethodName)) ∈ wAll := memL8 _ (List.mem_of_getElem? (i := 17) rfl)
theorem mW226 : (Jvm.Cond.code ({ cls := "java/util/ArrayList", name := "<init>", desc := "()V" } : Jvm.MethodName) prog_30_method_2_code (1 : Nat) (Option.none : Option Jvm.ClassFile.FieldType)) ∈ wAll := memL8 _ (List.mem_of_getElem? (i := 18) rfl)
theorem mW224 : (Jvm.Cond.methodLink "CommandHouse$Words" (27 : Nat) ({ cls := "java/util/ArrayList", name := "<init>", desc := "()V" } : Jvm.MethodName)) ∈ wAll := memL8 _ (List.mem_of_getElem? (i := 19) rfl)
theorem mW225 : (Jvm.Cond.instanceMethod ({ cls := "java/util/ArrayList", name := "<init>", desc := "()V" } : Jvm.MethodName)) ∈ wAll := memL9 _ (List.mem_of_getElem? (i := 0) rfl)
theorem mW249 : (Jvm.Cond.methodLinkNest "CommandHouse$Words" (38 : Nat) ({ cls := "CommandHouse$Bytes", name := "<init>", desc := "(ILCommandHouse$Bytes;)V" } : Jvm.MethodName) "CommandHouse") ∈ wAll := memL9 _ (List.mem_of_getElem? (i := 1) rfl)
theorem mW151 : (Jvm.Cond.code ({ cls := "CommandHouse$Words", name := "<init>", desc := "(LCommandHouse$Book;)V" } : Jvm.MethodName) prog_13_method_1_code (2 : Nat) (Option.none : Option Jvm.ClassFile.FieldType)) ∈ wAll := memL9 _ (List.mem_of_getElem? (i := 2) rfl)
theorem mW149 : (Jvm.Cond.methodLinkNest "CommandHouse" (22 : Nat) ({ cls := "CommandHouse$Words", name := "<init>", desc := "(LCommandHouse$Book;)V" } : Jvm.MethodName) "CommandHouse") ∈ wAll := memL9 _ (List.mem_of_getElem? (i := 3) rfl)
theorem mW150 : (Jvm.Cond.instanceMethod ({ cls := "CommandHouse$Words", name := "<init>", desc := "(LCommandHouse$Book;)V" } : Jvm.MethodName)) ∈ wAll := memL9 _ (List.mem_of_getElem? (i := 4) rfl)
theorem mW283 : (Jvm.Cond.code ({ cls := "CommandHouse$Builtins", name := "<init>", desc := "(LCommandHouse$Book;)V" } : Jvm.MethodName) prog_4_method_1_code (2 : Nat) (Option.none : Option Jvm.ClassFile.FieldType)) ∈ wAll := memL9 _ (List.mem_of_getElem? (i := 5) rfl)
theorem mW281 : (Jvm.Cond.methodLinkNest "CommandHouse" (27 : Nat) ({ cls := "CommandHouse$Builtins", name := "<init>", desc := "(LCommandHouse$Book;)V" } : Jvm.MethodName) "CommandHouse") ∈ wAll := memL9 _ (List.mem_of_getElem? (i := 6) rfl)
theorem mW282 : (Jvm.Cond.instanceMethod ({ cls := "CommandHouse$Builtins", name := "<init>", desc := "(LCommandHouse$Book;)V" } : Jvm.MethodName)) ∈ wAll := memL9 _ (List.mem_of_getElem? (i := 7) rfl)
theorem mW300 : (Jvm.Cond.methodLink "CommandHouse$Machine" (11 : Nat) ({ cls := "java/util/ArrayList", name := "<init>", desc := "()V" } : Jvm.MethodName)) ∈ wAll := memL9 _ (List.mem_of_getElem? (i := 8) rfl)
theorem mW305 : (Jvm.Cond.code ({ cls := "CommandHouse$State", name := "<init>", desc := "()V" } : Jvm.MethodName) prog_12_method_1_code (1 : Nat) (Option.none : Option Jvm.ClassFile.FieldType)) ∈ wAll := memL9 _ (List.mem_of_getElem? (i := 9) rfl)
theorem mW303 : (Jvm.Cond.methodLinkNest "CommandHouse$Machine" (20 : Nat) ({ cls := "CommandHouse$State", name := "<init>", desc := "()V" } : Jvm.MethodName) "CommandHouse") ∈ wAll := memL9 _ (List.mem_of_getElem? (i := 10) rfl)
theorem mW304 : (Jvm.Cond.instanceMethod ({ cls := "CommandHouse$State", name := "<init>", desc := "()V" } : Jvm.MethodName)) ∈ wAll := memL9 _ (List.mem_of_getElem? (i := 11) rfl)
theorem mW380 : (Jvm.Cond.code ({ cls := "CommandHouse$Input", name := "begin", desc := "(LCommandHouse$Bytes;)V" } : Jvm.MethodName) prog_8_method_2_code (2 : Nat) (Option.none : Option Jvm.ClassFile.FieldType)) ∈ wAll := memL9 _ (List.mem_of_getElem? (i := 12) rfl)
theorem mW377 : (Jvm.Cond.methodLink "CommandHouse$Input" (7 : Nat) ({ cls := "CommandHouse$Input", name := "begin", desc := "(LCommandHouse$Bytes;)V" } : Jvm.MethodName)) ∈ wAll := memL9 _ (List.mem_of_getElem? (i := 13) rfl)
theorem mW379 : (Jvm.Cond.instanceMethod ({ cls := "CommandHouse$Input", name := "begin", desc := "(LCommandHouse$Bytes;)V" } : Jvm.MethodName)) ∈ wAll := memL9 _ (List.mem_of_getElem? (i := 14) rfl)
theorem mW375 : (Jvm.Cond.code ({ cls := "CommandHouse$Input", name := "<init>", desc := "(LCommandHouse$Bytes;)V" } : Jvm.MethodName) prog_8_method_1_code (2 : Nat) (Option.none : Option Jvm.ClassFile.FieldType)) ∈ wAll := memL9 _ (List.mem_of_getElem? (i := 15) rfl)
theorem mW373 : (Jvm.Cond.methodLinkNest "CommandHouse$Machine" (62 : Nat) ({ cls := "CommandHouse$Input", name := "<init>", desc := "(LCommandHouse$Bytes;)V" } : Jvm.MethodName) "CommandHouse") ∈ wAll := memL9 _ (List.mem_of_getElem? (i := 16) rfl)
theorem mW374 : (Jvm.Cond.instanceMethod ({ cls := "CommandHouse$Input", name := "<init>", desc := "(LCommandHouse$Bytes;)V" } : Jvm.MethodName)) ∈ wAll := memL9 _ (List.mem_of_getElem? (i := 17) rfl)
theorem mW399 : (Jvm.Cond.code ({ cls := "CommandHouse$Script", name := "<init>", desc := "(LCommandHouse$Bytes;Z)V" } : Jvm.MethodName) prog_11_method_1_code (3 : Nat) (Option.none : Option Jvm.ClassFile.FieldType)) ∈ wAll := memL9 _ (List.mem_of_getElem? (i := 18) rfl)
theorem mW397 : (Jvm.Cond.methodLinkNest "CommandHouse$Machine" (71 : Nat) ({ cls := "CommandHouse$Script", name := "<init>", desc := "(LCommandHouse$Bytes;Z)V" } : Jvm.MethodName) "CommandHouse") ∈ wAll := memL9 _ (List.mem_of_getElem? (i := 19) rfl)
theorem mW398 : (Jvm.Cond.instanceMethod ({ cls := "CommandHouse$Script", name := "<init>", desc := "(LCommandHouse$Bytes;Z)V" } : Jvm.MethodName)) ∈ wAll := memL10 _ (List.mem_of_getElem? (i := 0) rfl)
theorem mW459 : (Jvm.Cond.code ({ cls := "CommandHouse$Frame", name := "<init>", desc := "()V" } : Jvm.MethodName) prog_7_method_1_code (1 : Nat) (Option.none : Option Jvm.ClassFile.FieldType)) ∈ wAll := memL10 _ (List.mem_of_getElem? (i := 1) rfl)
theorem mW457 : (Jvm.Cond.methodLinkNest "CommandHouse$Machine" (80 : Nat) ({ cls := "CommandHouse$Frame", name := "<init>", desc := "()V" } : Jvm.MethodName) "CommandHouse") ∈ wAll := memL10 _ (List.mem_of_getElem? (i := 2) rfl)
theorem mW458 : (Jvm.Cond.instanceMethod ({ cls := "CommandHouse$Frame", name := "<init>", desc := "()V" } : Jvm.MethodName)) ∈ wAll := memL10 _ (List.mem_of_getElem? (i := 3) rfl)
theorem mW536 : (Jvm.Cond.code ({ cls := "java/util/ArrayList", name := "grow", desc := "(I)[Ljava/lang/Object;" } : Jvm.MethodName) prog_30_method_6_code (4 : Nat) (Option.some (Jvm.ClassFile.FieldType.array (Jvm.ClassFile.FieldType.object "java/lang/Object")))) ∈ wAll := memL10 _ (List.mem_of_getElem? (i := 4) rfl)
theorem mW533 : (Jvm.Cond.methodLink "java/util/ArrayList" (69 : Nat) ({ cls := "java/util/ArrayList", name := "grow", desc := "(I)[Ljava/lang/Object;" } : Jvm.MethodName)) ∈ wAll := memL10 _ (List.mem_of_getElem? (i := 5) rfl)
theorem mW535 : (Jvm.Cond.instanceMethod ({ cls := "java/util/ArrayList", name := "grow", desc := "(I)[Ljava/lang/Object;" } : Jvm.MethodName)) ∈ wAll := memL10 _ (List.mem_of_getElem? (i := 6) rfl)
theorem mW532 : (Jvm.Cond.code ({ cls := "java/util/ArrayList", name := "grow", desc := "()[Ljava/lang/Object;" } : Jvm.MethodName) prog_30_method_7_code (1 : Nat) (Option.some (Jvm.ClassFile.FieldType.array (Jvm.ClassFile.FieldType.object "java/lang/Object")))) ∈ wAll := memL10 _ (List.mem_of_getElem? (i := 7) rfl)
theorem mW529 : (Jvm.Cond.methodLink "java/util/ArrayList" (129 : Nat) ({ cls := "java/util/ArrayList", name := "grow", desc := "()[Ljava/lang/Object;" } : Jvm.MethodName)) ∈ wAll := memL10 _ (List.mem_of_getElem? (i := 8) rfl)
theorem mW531 : (Jvm.Cond.instanceMethod ({ cls := "java/util/ArrayList", name := "grow", desc := "()[Ljava/lang/Object;" } : Jvm.MethodName)) ∈ wAll := memL10 _ (List.mem_of_getElem? (i := 9) rfl)
theorem mW528 : (Jvm.Cond.code ({ cls := "java/util/ArrayList", name := "add", desc := "(Ljava/lang/Object;[Ljava/lang/Object;I)V" } : Jvm.MethodName) prog_30_method_24_code (4 : Nat) (Option.none : Option Jvm.ClassFile.FieldType)) ∈ wAll := memL10 _ (List.mem_of_getElem? (i := 10) rfl)
theorem mW525 : (Jvm.Cond.methodLink "java/util/ArrayList" (131 : Nat) ({ cls := "java/util/ArrayList", name := "add", desc := "(Ljava/lang/Object;[Ljava/lang/Object;I)V" } : Jvm.MethodName)) ∈ wAll := memL10 _ (List.mem_of_getElem? (i := 11) rfl)
theorem mW527 : (Jvm.Cond.instanceMethod ({ cls := "java/util/ArrayList", name := "add", desc := "(Ljava/lang/Object;[Ljava/lang/Object;I)V" } : Jvm.MethodName)) ∈ wAll := memL10 _ (List.mem_of_getElem? (i := 12) rfl)
theorem mW524 : (Jvm.Cond.code ({ cls := "java/util/ArrayList", name := "add", desc := "(Ljava/lang/Object;)Z" } : Jvm.MethodName) prog_30_method_25_code (2 : Nat) (Option.some Jvm.ClassFile.FieldType.boolean)) ∈ wAll := memL10 _ (List.mem_of_getElem? (i := 13) rfl)
theorem mW521 : (Jvm.Cond.methodLink "CommandHouse$Machine" (81 : Nat) ({ cls := "java/util/ArrayList", name := "add", desc := "(Ljava/lang/Object;)Z" } : Jvm.MethodName)) ∈ wAll := memL10 _ (List.mem_of_getElem? (i := 14) rfl)
theorem mW522 : (Jvm.Cond.instanceMethod ({ cls := "java/util/ArrayList", name := "add", desc := "(Ljava/lang/Object;)Z" } : Jvm.MethodName)) ∈ wAll := memL10 _ (List.mem_of_getElem? (i := 15) rfl)
theorem mW523 : (Jvm.Cond.selects "java/util/ArrayList" ({ cls := "java/util/ArrayList", name := "add", desc := "(Ljava/lang/Object;)Z" } : Jvm.MethodName) ({ cls := "java/util/ArrayList", name := "add", desc := "(Ljava/lang/Object;)Z" } : Jvm.MethodName)) ∈ wAll := memL10 _ (List.mem_of_getElem? (i := 16) rfl)
theorem mW297 : (Jvm.Cond.code ({ cls := "CommandHouse$Machine", name := "<init>", desc := "(LCommandHouse$Book;LCommandHouse$Words;LCommandHouse$Builtins;)V" } : Jvm.MethodName) prog_9_method_1_code (4 : Nat) (Option.none : Option Jvm.ClassFile.FieldType)) ∈ wAll := memL10 _ (List.mem_of_getElem? (i := 17) rfl)
theorem mW295 : (Jvm.Cond.methodLinkNest "CommandHouse" (30 : Nat) ({ cls := "CommandHouse$Machine", name := "<init>", desc := "(LCommandHouse$Book;LCommandHouse$Words;LCommandHouse$Builtins;)V" } : Jvm.MethodName) "CommandHouse") ∈ wAll := memL10 _ (List.mem_of_getElem? (i := 18) rfl)
theorem mW296 : (Jvm.Cond.instanceMethod ({ cls := "CommandHouse$Machine", name := "<init>", desc := "(LCommandHouse$Book;LCommandHouse$Words;LCommandHouse$Builtins;)V" } : Jvm.MethodName)) ∈ wAll := memL10 _ (List.mem_of_getElem? (i := 19) rfl)
theorem mW627 : (Jvm.Cond.methodLinkNest "CommandHouse" (41 : Nat) ({ cls := "CommandHouse$Bytes", name := "<init>", desc := "([BII)V" } : Jvm.MethodName) "CommandHouse") ∈ wAll := memL11 _ (List.mem_of_getElem? (i := 0) rfl)
theorem mW31 : (Jvm.Cond.code ({ cls := "CommandHouse", name := "<init>", desc := "()V" } : Jvm.MethodName) prog_1_method_1_code (3 : Nat) (Option.none : Option Jvm.ClassFile.FieldType)) ∈ wAll := memL11 _ (List.mem_of_getElem? (i := 1) rfl)
theorem mW29 : (Jvm.Cond.methodLink "CommandHouseLaw" (9 : Nat) ({ cls := "CommandHouse", name := "<init>", desc := "()V" } : Jvm.MethodName)) ∈ wAll := memL11 _ (List.mem_of_getElem? (i := 2) rfl)
theorem mW30 : (Jvm.Cond.instanceMethod ({ cls := "CommandHouse", name := "<init>", desc := "()V" } : Jvm.MethodName)) ∈ wAll := memL11 _ (List.mem_of_getElem? (i := 3) rfl)
theorem mW1871 : (Jvm.Cond.classLink "CommandHouseLaw" (10 : Nat) "CommandHouseModel") ∈ wAll := memL11 _ (List.mem_of_getElem? (i := 4) rfl)
theorem mW1872 : (Jvm.Cond.instantiable "CommandHouseModel" (89 : Nat)) ∈ wAll := memL11 _ (List.mem_of_getElem? (i := 5) rfl)
theorem mW20 : (Jvm.Cond.initialized "CommandHouseModel") ∈ wAll := memL11 _ (List.mem_of_getElem? (i := 6) rfl)
theorem mW1876 : (Jvm.Cond.methodLink "CommandHouseModel" (1 : Nat) ({ cls := "java/lang/Object", name := "<init>", desc := "()V" } : Jvm.MethodName)) ∈ wAll := memL11 _ (List.mem_of_getElem? (i := 7) rfl)
theorem mW1883 : (Jvm.Cond.fieldLink "CommandHouseModel" (7 : Nat) "CommandHouseModel" "tape" "[I") ∈ wAll := memL11 _ (List.mem_of_getElem? (i := 8) rfl)
theorem mW1885 : (Jvm.Cond.fieldLink "CommandHouseModel" (13 : Nat) "CommandHouseModel" "given" "[I") ∈ wAll := memL11 _ (List.mem_of_getElem? (i := 9) rfl)
theorem mW1887 : (Jvm.Cond.fieldLink "CommandHouseModel" (16 : Nat) "CommandHouseModel" "out" "[I") ∈ wAll := memL11 _ (List.mem_of_getElem? (i := 10) rfl)
theorem mW1890 : (Jvm.Cond.fieldLink "CommandHouseModel" (19 : Nat) "CommandHouseModel" "diagnostic" "[I") ∈ wAll := memL11 _ (List.mem_of_getElem? (i := 11) rfl)
theorem mW1891 : (Jvm.Cond.fieldLink "CommandHouseModel" (22 : Nat) "CommandHouseModel" "wrongPlace" "I") ∈ wAll := memL11 _ (List.mem_of_getElem? (i := 12) rfl)
theorem mW1877 : (Jvm.Cond.constant "CommandHouseModel" (26 : Nat) (160000 : Int32)) ∈ wAll := memL11 _ (List.mem_of_getElem? (i := 13) rfl)
theorem mW1894 : (Jvm.Cond.fieldLink "CommandHouseModel" (27 : Nat) "CommandHouseModel" "script" "[I") ∈ wAll := memL11 _ (List.mem_of_getElem? (i := 14) rfl)
theorem mW1896 : (Jvm.Cond.fieldLink "CommandHouseModel" (30 : Nat) "CommandHouseModel" "hereFrom" "[I") ∈ wAll := memL11 _ (List.mem_of_getElem? (i := 15) rfl)
theorem mW1897 : (Jvm.Cond.fieldLink "CommandHouseModel" (33 : Nat) "CommandHouseModel" "hereTo" "[I") ∈ wAll := memL11 _ (List.mem_of_getElem? (i := 16) rfl)
theorem mW1878 : (Jvm.Cond.constant "CommandHouseModel" (36 : Nat) (52000 : Int32)) ∈ wAll := memL11 _ (List.mem_of_getElem? (i := 17) rfl)
theorem mW1898 : (Jvm.Cond.fieldLink "CommandHouseModel" (37 : Nat) "CommandHouseModel" "waiting" "[I") ∈ wAll := memL11 _ (List.mem_of_getElem? (i := 18) rfl)
theorem mW1899 : (Jvm.Cond.fieldLink "CommandHouseModel" (40 : Nat) "CommandHouseModel" "waitingMark" "[I") ∈ wAll := memL11 _ (List.mem_of_getElem? (i := 19) rfl)
theorem mW1900 : (Jvm.Cond.fieldLink "CommandHouseModel" (43 : Nat) "CommandHouseModel" "waitingEnd" "[I") ∈ wAll := memL12 _ (List.mem_of_getElem? (i := 0) rfl)
theorem mW1879 : (Jvm.Cond.constant "CommandHouseModel" (46 : Nat) (400000 : Int32)) ∈ wAll := memL12 _ (List.mem_of_getElem? (i := 1) rfl)
theorem mW1902 : (Jvm.Cond.fieldLink "CommandHouseModel" (47 : Nat) "CommandHouseModel" "texts" "[I") ∈ wAll := memL12 _ (List.mem_of_getElem? (i := 2) rfl)
theorem mW1905 : (Jvm.Cond.fieldLink "CommandHouseModel" (50 : Nat) "CommandHouseModel" "nameAt" "[I") ∈ wAll := memL12 _ (List.mem_of_getElem? (i := 3) rfl)
theorem mW1906 : (Jvm.Cond.fieldLink "CommandHouseModel" (53 : Nat) "CommandHouseModel" "nameLong" "[I") ∈ wAll := memL12 _ (List.mem_of_getElem? (i := 4) rfl)
theorem mW1907 : (Jvm.Cond.fieldLink "CommandHouseModel" (56 : Nat) "CommandHouseModel" "valueAt" "[I") ∈ wAll := memL12 _ (List.mem_of_getElem? (i := 5) rfl)
theorem mW1908 : (Jvm.Cond.fieldLink "CommandHouseModel" (59 : Nat) "CommandHouseModel" "valueLong" "[I") ∈ wAll := memL12 _ (List.mem_of_getElem? (i := 6) rfl)
theorem mW1910 : (Jvm.Cond.fieldLink "CommandHouseModel" (62 : Nat) "CommandHouseModel" "parameterAt" "[I") ∈ wAll := memL12 _ (List.mem_of_getElem? (i := 7) rfl)
theorem mW1911 : (Jvm.Cond.fieldLink "CommandHouseModel" (65 : Nat) "CommandHouseModel" "parameterLong" "[I") ∈ wAll := memL12 _ (List.mem_of_getElem? (i := 8) rfl)
theorem mW1913 : (Jvm.Cond.fieldLink "CommandHouseModel" (68 : Nat) "CommandHouseModel" "functionAt" "[I") ∈ wAll := memL12 _ (List.mem_of_getElem? (i := 9) rfl)
theorem mW1914 : (Jvm.Cond.fieldLink "CommandHouseModel" (71 : Nat) "CommandHouseModel" "functionLong" "[I") ∈ wAll := memL12 _ (List.mem_of_getElem? (i := 10) rfl)
theorem mW1915 : (Jvm.Cond.fieldLink "CommandHouseModel" (74 : Nat) "CommandHouseModel" "functionBody" "[I") ∈ wAll := memL12 _ (List.mem_of_getElem? (i := 11) rfl)
theorem mW1916 : (Jvm.Cond.fieldLink "CommandHouseModel" (77 : Nat) "CommandHouseModel" "functionEnd" "[I") ∈ wAll := memL12 _ (List.mem_of_getElem? (i := 12) rfl)
theorem mW1880 : (Jvm.Cond.constant "CommandHouseModel" (80 : Nat) (60000 : Int32)) ∈ wAll := memL12 _ (List.mem_of_getElem? (i := 13) rfl)
theorem mW1920 : (Jvm.Cond.fieldLink "CommandHouseModel" (81 : Nat) "CommandHouseModel" "saved" "[I") ∈ wAll := memL12 _ (List.mem_of_getElem? (i := 14) rfl)
theorem mW1881 : (Jvm.Cond.constant "CommandHouseModel" (84 : Nat) (40020 : Int32)) ∈ wAll := memL12 _ (List.mem_of_getElem? (i := 15) rfl)
theorem mW1923 : (Jvm.Cond.fieldLink "CommandHouseModel" (85 : Nat) "CommandHouseModel" "fileName" "[I") ∈ wAll := memL12 _ (List.mem_of_getElem? (i := 16) rfl)
theorem mW1924 : (Jvm.Cond.fieldLink "CommandHouseModel" (88 : Nat) "CommandHouseModel" "fileNameLong" "[I") ∈ wAll := memL12 _ (List.mem_of_getElem? (i := 17) rfl)
theorem mW1925 : (Jvm.Cond.fieldLink "CommandHouseModel" (91 : Nat) "CommandHouseModel" "file" "[I") ∈ wAll := memL12 _ (List.mem_of_getElem? (i := 18) rfl)
theorem mW1926 : (Jvm.Cond.fieldLink "CommandHouseModel" (94 : Nat) "CommandHouseModel" "fileLong" "[I") ∈ wAll := memL12 _ (List.mem_of_getElem? (i := 19) rfl)
theorem mW1939 : (Jvm.Cond.fieldLink "CommandHouseModel" (97 : Nat) "CommandHouseModel" "wrong" "I") ∈ wAll := memL13 _ (List.mem_of_getElem? (i := 0) rfl)
theorem mW1941 : (Jvm.Cond.fieldLink "CommandHouseModel" (100 : Nat) "CommandHouseModel" "behind" "[I") ∈ wAll := memL13 _ (List.mem_of_getElem? (i := 1) rfl)
theorem mW1943 : (Jvm.Cond.fieldLink "CommandHouseModel" (103 : Nat) "CommandHouseModel" "kept" "[I") ∈ wAll := memL13 _ (List.mem_of_getElem? (i := 2) rfl)
theorem mW1949 : (Jvm.Cond.fieldLink "CommandHouseModel" (106 : Nat) "CommandHouseModel" "caughtBytes" "[I") ∈ wAll := memL13 _ (List.mem_of_getElem? (i := 3) rfl)
theorem mW1950 : (Jvm.Cond.fieldLink "CommandHouseModel" (109 : Nat) "CommandHouseModel" "caughtMany" "[I") ∈ wAll := memL13 _ (List.mem_of_getElem? (i := 4) rfl)
theorem mW1953 : (Jvm.Cond.fieldLink "CommandHouseModel" (112 : Nat) "CommandHouseModel" "inputFile" "[I") ∈ wAll := memL13 _ (List.mem_of_getElem? (i := 5) rfl)
theorem mW1954 : (Jvm.Cond.fieldLink "CommandHouseModel" (115 : Nat) "CommandHouseModel" "inputAt" "[I") ∈ wAll := memL13 _ (List.mem_of_getElem? (i := 6) rfl)
theorem mW1955 : (Jvm.Cond.fieldLink "CommandHouseModel" (118 : Nat) "CommandHouseModel" "inputTo" "[I") ∈ wAll := memL13 _ (List.mem_of_getElem? (i := 7) rfl)
theorem mW2151 : (Jvm.Cond.arrayClass Jvm.ClassFile.FieldType.boolean) ∈ wAll := memL13 _ (List.mem_of_getElem? (i := 8) rfl)
theorem mW1956 : (Jvm.Cond.fieldLink "CommandHouseModel" (121 : Nat) "CommandHouseModel" "nameInTexts" "[Z") ∈ wAll := memL13 _ (List.mem_of_getElem? (i := 9) rfl)
theorem mW1882 : (Jvm.Cond.constant "CommandHouseModel" (125 : Nat) (200000 : Int32)) ∈ wAll := memL13 _ (List.mem_of_getElem? (i := 10) rfl)
theorem mW1958 : (Jvm.Cond.fieldLink "CommandHouseModel" (126 : Nat) "CommandHouseModel" "made" "[I") ∈ wAll := memL13 _ (List.mem_of_getElem? (i := 11) rfl)
theorem mW1966 : (Jvm.Cond.fieldLink "CommandHouseModel" (129 : Nat) "CommandHouseModel" "fieldAt" "[I") ∈ wAll := memL13 _ (List.mem_of_getElem? (i := 12) rfl)
theorem mW1967 : (Jvm.Cond.fieldLink "CommandHouseModel" (132 : Nat) "CommandHouseModel" "fieldLong" "[I") ∈ wAll := memL13 _ (List.mem_of_getElem? (i := 13) rfl)
theorem mW1875 : (Jvm.Cond.code ({ cls := "CommandHouseModel", name := "<init>", desc := "()V" } : Jvm.MethodName) prog_15_method_1_code (1 : Nat) (Option.none : Option Jvm.ClassFile.FieldType)) ∈ wAll := memL13 _ (List.mem_of_getElem? (i := 14) rfl)
theorem mW1873 : (Jvm.Cond.methodLink "CommandHouseLaw" (12 : Nat) ({ cls := "CommandHouseModel", name := "<init>", desc := "()V" } : Jvm.MethodName)) ∈ wAll := memL13 _ (List.mem_of_getElem? (i := 15) rfl)
theorem mW1874 : (Jvm.Cond.instanceMethod ({ cls := "CommandHouseModel", name := "<init>", desc := "()V" } : Jvm.MethodName)) ∈ wAll := memL13 _ (List.mem_of_getElem? (i := 16) rfl)
theorem mW629 : (Jvm.Cond.fieldLink "CommandHouse" (48 : Nat) "CommandHouse" "taped" "I") ∈ wAll := memL13 _ (List.mem_of_getElem? (i := 17) rfl)
theorem mW651 : (Jvm.Cond.code ({ cls := "CommandHouse", name := "lay", desc := "(I)V" } : Jvm.MethodName) prog_1_method_13_code (3 : Nat) (Option.none : Option Jvm.ClassFile.FieldType)) ∈ wAll := memL13 _ (List.mem_of_getElem? (i := 18) rfl)
theorem mW648 : (Jvm.Cond.methodLink "CommandHouse" (52 : Nat) ({ cls := "CommandHouse", name := "lay", desc := "(I)V" } : Jvm.MethodName)) ∈ wAll := memL13 _ (List.mem_of_getElem? (i := 19) rfl)
theorem mW650 : (Jvm.Cond.instanceMethod ({ cls := "CommandHouse", name := "lay", desc := "(I)V" } : Jvm.MethodName)) ∈ wAll := memL14 _ (List.mem_of_getElem? (i := 0) rfl)
theorem mW647 : (Jvm.Cond.code ({ cls := "CommandHouse", name := "feed", desc := "(IIIII)I" } : Jvm.MethodName) prog_1_method_2_code (6 : Nat) (Option.some Jvm.ClassFile.FieldType.int)) ∈ wAll := memL14 _ (List.mem_of_getElem? (i := 1) rfl)
theorem mW644 : (Jvm.Cond.methodLink "CommandHouseLaw" (13 : Nat) ({ cls := "CommandHouse", name := "feed", desc := "(IIIII)I" } : Jvm.MethodName)) ∈ wAll := memL14 _ (List.mem_of_getElem? (i := 2) rfl)
theorem mW645 : (Jvm.Cond.instanceMethod ({ cls := "CommandHouse", name := "feed", desc := "(IIIII)I" } : Jvm.MethodName)) ∈ wAll := memL14 _ (List.mem_of_getElem? (i := 3) rfl)
theorem mW646 : (Jvm.Cond.selects "CommandHouse" ({ cls := "CommandHouse", name := "feed", desc := "(IIIII)I" } : Jvm.MethodName) ({ cls := "CommandHouse", name := "feed", desc := "(IIIII)I" } : Jvm.MethodName)) ∈ wAll := memL14 _ (List.mem_of_getElem? (i := 4) rfl)
theorem mW1884 : (Jvm.Cond.fieldLink "CommandHouseModel" (828 : Nat) "CommandHouseModel" "taped" "I") ∈ wAll := memL14 _ (List.mem_of_getElem? (i := 5) rfl)
theorem mW2155 : (Jvm.Cond.code ({ cls := "CommandHouseModel", name := "feed", desc := "(IIIII)I" } : Jvm.MethodName) prog_15_method_168_code (8 : Nat) (Option.some Jvm.ClassFile.FieldType.int)) ∈ wAll := memL14 _ (List.mem_of_getElem? (i := 6) rfl)
theorem mW2152 : (Jvm.Cond.methodLink "CommandHouseLaw" (17 : Nat) ({ cls := "CommandHouseModel", name := "feed", desc := "(IIIII)I" } : Jvm.MethodName)) ∈ wAll := memL14 _ (List.mem_of_getElem? (i := 7) rfl)
theorem mW2153 : (Jvm.Cond.instanceMethod ({ cls := "CommandHouseModel", name := "feed", desc := "(IIIII)I" } : Jvm.MethodName)) ∈ wAll := memL14 _ (List.mem_of_getElem? (i := 8) rfl)
theorem mW2154 : (Jvm.Cond.selects "CommandHouseModel" ({ cls := "CommandHouseModel", name := "feed", desc := "(IIIII)I" } : Jvm.MethodName) ({ cls := "CommandHouseModel", name := "feed", desc := "(IIIII)I" } : Jvm.MethodName)) ∈ wAll := memL14 _ (List.mem_of_getElem? (i := 9) rfl)
theorem mW655 : (Jvm.Cond.code ({ cls := "CommandHouse", name := "end", desc := "(I)I" } : Jvm.MethodName) prog_1_method_3_code (2 : Nat) (Option.some Jvm.ClassFile.FieldType.int)) ∈ wAll := memL14 _ (List.mem_of_getElem? (i := 10) rfl)
theorem mW652 : (Jvm.Cond.methodLink "CommandHouseLaw" (18 : Nat) ({ cls := "CommandHouse", name := "end", desc := "(I)I" } : Jvm.MethodName)) ∈ wAll := memL14 _ (List.mem_of_getElem? (i := 11) rfl)
theorem mW653 : (Jvm.Cond.instanceMethod ({ cls := "CommandHouse", name := "end", desc := "(I)I" } : Jvm.MethodName)) ∈ wAll := memL14 _ (List.mem_of_getElem? (i := 12) rfl)
theorem mW654 : (Jvm.Cond.selects "CommandHouse" ({ cls := "CommandHouse", name := "end", desc := "(I)I" } : Jvm.MethodName) ({ cls := "CommandHouse", name := "end", desc := "(I)I" } : Jvm.MethodName)) ∈ wAll := memL14 _ (List.mem_of_getElem? (i := 13) rfl)
theorem mW2162 : (Jvm.Cond.code ({ cls := "CommandHouseModel", name := "isIn", desc := "(III)Z" } : Jvm.MethodName) prog_15_method_2_code (3 : Nat) (Option.some Jvm.ClassFile.FieldType.boolean)) ∈ wAll := memL14 _ (List.mem_of_getElem? (i := 14) rfl)
theorem mW2160 : (Jvm.Cond.methodLink "CommandHouseModel" (139 : Nat) ({ cls := "CommandHouseModel", name := "isIn", desc := "(III)Z" } : Jvm.MethodName)) ∈ wAll := memL14 _ (List.mem_of_getElem? (i := 15) rfl)
theorem mW2161 : (Jvm.Cond.static ({ cls := "CommandHouseModel", name := "isIn", desc := "(III)Z" } : Jvm.MethodName)) ∈ wAll := memL14 _ (List.mem_of_getElem? (i := 16) rfl)
theorem mW2159 : (Jvm.Cond.code ({ cls := "CommandHouseModel", name := "end", desc := "(I)I" } : Jvm.MethodName) prog_15_method_169_code (2 : Nat) (Option.some Jvm.ClassFile.FieldType.int)) ∈ wAll := memL14 _ (List.mem_of_getElem? (i := 17) rfl)
theorem mW2156 : (Jvm.Cond.methodLink "CommandHouseLaw" (22 : Nat) ({ cls := "CommandHouseModel", name := "end", desc := "(I)I" } : Jvm.MethodName)) ∈ wAll := memL14 _ (List.mem_of_getElem? (i := 18) rfl)
theorem mW2157 : (Jvm.Cond.instanceMethod ({ cls := "CommandHouseModel", name := "end", desc := "(I)I" } : Jvm.MethodName)) ∈ wAll := memL14 _ (List.mem_of_getElem? (i := 19) rfl)
theorem mW2158 : (Jvm.Cond.selects "CommandHouseModel" ({ cls := "CommandHouseModel", name := "end", desc := "(I)I" } : Jvm.MethodName) ({ cls := "CommandHouseModel", name := "end", desc := "(I)I" } : Jvm.MethodName)) ∈ wAll := memL15 _ (List.mem_of_getElem? (i := 0) rfl)
theorem mW62 : (Jvm.Cond.fieldLinkNest "CommandHouse" (56 : Nat) "CommandHouse$Bytes" "n" "I" "CommandHouse") ∈ wAll := memL15 _ (List.mem_of_getElem? (i := 1) rfl)
theorem mW659 : (Jvm.Cond.code ({ cls := "CommandHouse", name := "input", desc := "()I" } : Jvm.MethodName) prog_1_method_4_code (1 : Nat) (Option.some Jvm.ClassFile.FieldType.int)) ∈ wAll := memL15 _ (List.mem_of_getElem? (i := 2) rfl)
theorem mW656 : (Jvm.Cond.methodLink "CommandHouseLaw" (23 : Nat) ({ cls := "CommandHouse", name := "input", desc := "()I" } : Jvm.MethodName)) ∈ wAll := memL15 _ (List.mem_of_getElem? (i := 3) rfl)
theorem mW657 : (Jvm.Cond.instanceMethod ({ cls := "CommandHouse", name := "input", desc := "()I" } : Jvm.MethodName)) ∈ wAll := memL15 _ (List.mem_of_getElem? (i := 4) rfl)
theorem mW658 : (Jvm.Cond.selects "CommandHouse" ({ cls := "CommandHouse", name := "input", desc := "()I" } : Jvm.MethodName) ({ cls := "CommandHouse", name := "input", desc := "()I" } : Jvm.MethodName)) ∈ wAll := memL15 _ (List.mem_of_getElem? (i := 5) rfl)
theorem mW1886 : (Jvm.Cond.fieldLink "CommandHouseModel" (831 : Nat) "CommandHouseModel" "givenMany" "I") ∈ wAll := memL15 _ (List.mem_of_getElem? (i := 6) rfl)
theorem mW2166 : (Jvm.Cond.code ({ cls := "CommandHouseModel", name := "input", desc := "()I" } : Jvm.MethodName) prog_15_method_170_code (2 : Nat) (Option.some Jvm.ClassFile.FieldType.int)) ∈ wAll := memL15 _ (List.mem_of_getElem? (i := 7) rfl)
theorem mW2163 : (Jvm.Cond.methodLink "CommandHouseLaw" (27 : Nat) ({ cls := "CommandHouseModel", name := "input", desc := "()I" } : Jvm.MethodName)) ∈ wAll := memL15 _ (List.mem_of_getElem? (i := 8) rfl)
theorem mW2164 : (Jvm.Cond.instanceMethod ({ cls := "CommandHouseModel", name := "input", desc := "()I" } : Jvm.MethodName)) ∈ wAll := memL15 _ (List.mem_of_getElem? (i := 9) rfl)
theorem mW2165 : (Jvm.Cond.selects "CommandHouseModel" ({ cls := "CommandHouseModel", name := "input", desc := "()I" } : Jvm.MethodName) ({ cls := "CommandHouseModel", name := "input", desc := "()I" } : Jvm.MethodName)) ∈ wAll := memL15 _ (List.mem_of_getElem? (i := 10) rfl)
theorem mW664 : (Jvm.Cond.classLink "CommandHouse" (59 : Nat) "CommandHouse$Input") ∈ wAll := memL15 _ (List.mem_of_getElem? (i := 11) rfl)
theorem mW99 : (Jvm.Cond.fieldLink "CommandHouse$Book" (38 : Nat) "CommandHouse$Book" "flow" "I") ∈ wAll := memL15 _ (List.mem_of_getElem? (i := 12) rfl)
theorem mW102 : (Jvm.Cond.fieldLink "CommandHouse$Book" (42 : Nat) "CommandHouse$Book" "limit" "I") ∈ wAll := memL15 _ (List.mem_of_getElem? (i := 13) rfl)
theorem mW104 : (Jvm.Cond.fieldLink "CommandHouse$Book" (45 : Nat) "CommandHouse$Book" "ran" "I") ∈ wAll := memL15 _ (List.mem_of_getElem? (i := 14) rfl)
theorem mW107 : (Jvm.Cond.fieldLink "CommandHouse$Book" (48 : Nat) "CommandHouse$Book" "latest" "I") ∈ wAll := memL15 _ (List.mem_of_getElem? (i := 15) rfl)
theorem mW111 : (Jvm.Cond.fieldLink "CommandHouse$Book" (51 : Nat) "CommandHouse$Book" "told" "I") ∈ wAll := memL15 _ (List.mem_of_getElem? (i := 16) rfl)
theorem mW59 : (Jvm.Cond.fieldLinkNest "CommandHouse$Book" (54 : Nat) "CommandHouse$Bytes" "n" "I" "CommandHouse") ∈ wAll := memL15 _ (List.mem_of_getElem? (i := 17) rfl)
theorem mW256 : (Jvm.Cond.fieldLink "CommandHouse$Words" (55 : Nat) "CommandHouse$Words" "taken" "I") ∈ wAll := memL15 _ (List.mem_of_getElem? (i := 18) rfl)
theorem mW314 : (Jvm.Cond.fieldLink "CommandHouse$State" (45 : Nat) "CommandHouse$State" "variables" "I") ∈ wAll := memL15 _ (List.mem_of_getElem? (i := 19) rfl)
theorem mW317 : (Jvm.Cond.fieldLink "CommandHouse$State" (75 : Nat) "CommandHouse$State" "shifted" "I") ∈ wAll := memL16 _ (List.mem_of_getElem? (i := 0) rfl)
theorem mW324 : (Jvm.Cond.fieldLink "CommandHouse$State" (53 : Nat) "CommandHouse$State" "functions" "I") ∈ wAll := memL16 _ (List.mem_of_getElem? (i := 1) rfl)
theorem mW325 : (Jvm.Cond.fieldLink "CommandHouse$State" (56 : Nat) "CommandHouse$State" "unsetFails" "Z") ∈ wAll := memL16 _ (List.mem_of_getElem? (i := 2) rfl)
theorem mW328 : (Jvm.Cond.fieldLink "CommandHouse$State" (60 : Nat) "CommandHouse$State" "namesStay" "Z") ∈ wAll := memL16 _ (List.mem_of_getElem? (i := 3) rfl)
theorem mW331 : (Jvm.Cond.fieldLink "CommandHouse$State" (63 : Nat) "CommandHouse$State" "status" "I") ∈ wAll := memL16 _ (List.mem_of_getElem? (i := 4) rfl)
theorem mW590 : (Jvm.Cond.fieldLink "CommandHouse$Machine" (95 : Nat) "CommandHouse$Machine" "pc" "I") ∈ wAll := memL16 _ (List.mem_of_getElem? (i := 5) rfl)
theorem mW594 : (Jvm.Cond.fieldLink "CommandHouse$Machine" (98 : Nat) "CommandHouse$Machine" "level" "I") ∈ wAll := memL16 _ (List.mem_of_getElem? (i := 6) rfl)
theorem mW581 : (Jvm.Cond.fieldLink "CommandHouse$Machine" (101 : Nat) "CommandHouse$Machine" "depth" "I") ∈ wAll := memL16 _ (List.mem_of_getElem? (i := 7) rfl)
theorem mW461 : (Jvm.Cond.fieldLinkNest "CommandHouse$Machine" (123 : Nat) "CommandHouse$Frame" "kind" "I" "CommandHouse") ∈ wAll := memL16 _ (List.mem_of_getElem? (i := 8) rfl)
theorem mW462 : (Jvm.Cond.fieldLinkNest "CommandHouse$Machine" (126 : Nat) "CommandHouse$Frame" "script" "LCommandHouse$Script;" "CommandHouse") ∈ wAll := memL16 _ (List.mem_of_getElem? (i := 9) rfl)
theorem mW463 : (Jvm.Cond.fieldLinkNest "CommandHouse$Machine" (127 : Nat) "CommandHouse$Frame" "pc" "I" "CommandHouse") ∈ wAll := memL16 _ (List.mem_of_getElem? (i := 10) rfl)
theorem mW464 : (Jvm.Cond.fieldLinkNest "CommandHouse$Machine" (128 : Nat) "CommandHouse$Frame" "in" "LCommandHouse$Input;" "CommandHouse") ∈ wAll := memL16 _ (List.mem_of_getElem? (i := 11) rfl)
theorem mW465 : (Jvm.Cond.fieldLinkNest "CommandHouse$Machine" (129 : Nat) "CommandHouse$Frame" "out" "LCommandHouse$Bytes;" "CommandHouse") ∈ wAll := memL16 _ (List.mem_of_getElem? (i := 12) rfl)
theorem mW466 : (Jvm.Cond.fieldLinkNest "CommandHouse$Machine" (130 : Nat) "CommandHouse$Frame" "level" "I" "CommandHouse") ∈ wAll := memL16 _ (List.mem_of_getElem? (i := 13) rfl)
theorem mW477 : (Jvm.Cond.fieldLinkNest "CommandHouse$Machine" (131 : Nat) "CommandHouse$Frame" "keeps" "Z" "CommandHouse") ∈ wAll := memL16 _ (List.mem_of_getElem? (i := 14) rfl)
theorem mW480 : (Jvm.Cond.fieldLinkNest "CommandHouse$Machine" (135 : Nat) "CommandHouse$Frame" "made" "LCommandHouse$Bytes;" "CommandHouse") ∈ wAll := memL16 _ (List.mem_of_getElem? (i := 15) rfl)
theorem mW61 : (Jvm.Cond.fieldLinkNest "CommandHouse$Machine" (108 : Nat) "CommandHouse$Bytes" "n" "I" "CommandHouse") ∈ wAll := memL16 _ (List.mem_of_getElem? (i := 16) rfl)
theorem mW712 : (Jvm.Cond.constant "CommandHouse$Book" (57 : Nat) (150000 : Int32)) ∈ wAll := memL16 _ (List.mem_of_getElem? (i := 17) rfl)
theorem mW97 : (Jvm.Cond.fieldLink "CommandHouse$Book" (58 : Nat) "CommandHouse$Book" "work" "I") ∈ wAll := memL16 _ (List.mem_of_getElem? (i := 18) rfl)
theorem mW721 : (Jvm.Cond.constantLong "CommandHouse$Machine" (200 : Nat) (1125899906842624 : Int64)) ∈ wAll := memL16 _ (List.mem_of_getElem? (i := 19) rfl)
theorem mW101 : (Jvm.Cond.fieldLinkNest "CommandHouse$Machine" (169 : Nat) "CommandHouse$Book" "flow" "I" "CommandHouse") ∈ wAll := memL17 _ (List.mem_of_getElem? (i := 0) rfl)
theorem mW413 : (Jvm.Cond.fieldLink "CommandHouse$Script" (53 : Nat) "CommandHouse$Script" "length" "I") ∈ wAll := memL17 _ (List.mem_of_getElem? (i := 1) rfl)
theorem mW419 : (Jvm.Cond.fieldLinkNest "CommandHouse$Machine" (184 : Nat) "CommandHouse$Script" "began" "Z" "CommandHouse") ∈ wAll := memL17 _ (List.mem_of_getElem? (i := 2) rfl)
theorem mW408 : (Jvm.Cond.fieldLink "CommandHouse$Script" (81 : Nat) "CommandHouse$Script" "pos" "I") ∈ wAll := memL17 _ (List.mem_of_getElem? (i := 3) rfl)
theorem mW410 : (Jvm.Cond.fieldLink "CommandHouse$Script" (59 : Nat) "CommandHouse$Script" "from" "I") ∈ wAll := memL17 _ (List.mem_of_getElem? (i := 4) rfl)
theorem mW409 : (Jvm.Cond.fieldLink "CommandHouse$Script" (50 : Nat) "CommandHouse$Script" "kind" "I") ∈ wAll := memL17 _ (List.mem_of_getElem? (i := 5) rfl)
theorem mW411 : (Jvm.Cond.fieldLink "CommandHouse$Script" (88 : Nat) "CommandHouse$Script" "to" "I") ∈ wAll := memL17 _ (List.mem_of_getElem? (i := 6) rfl)
theorem mW420 : (Jvm.Cond.fieldLink "CommandHouse$Script" (116 : Nat) "CommandHouse$Script" "waiting" "[I") ∈ wAll := memL17 _ (List.mem_of_getElem? (i := 7) rfl)
theorem mW421 : (Jvm.Cond.fieldLink "CommandHouse$Script" (119 : Nat) "CommandHouse$Script" "waits" "I") ∈ wAll := memL17 _ (List.mem_of_getElem? (i := 8) rfl)
theorem mW417 : (Jvm.Cond.fieldLinkNest "CommandHouse$Machine" (190 : Nat) "CommandHouse$Script" "wrongAt" "I" "CommandHouse") ∈ wAll := memL17 _ (List.mem_of_getElem? (i := 9) rfl)
theorem mW334 : (Jvm.Cond.fieldLinkNest "CommandHouse$Machine" (172 : Nat) "CommandHouse$State" "status" "I" "CommandHouse") ∈ wAll := memL17 _ (List.mem_of_getElem? (i := 10) rfl)
theorem mW730 : (Jvm.Cond.methodLink "CommandHouse$Machine" (138 : Nat) ({ cls := "java/lang/Math", name := "min", desc := "(II)I" } : Jvm.MethodName)) ∈ wAll := memL17 _ (List.mem_of_getElem? (i := 11) rfl)
theorem mW731 : (Jvm.Cond.methodLink "CommandHouse$Machine" (144 : Nat) ({ cls := "java/lang/Math", name := "max", desc := "(II)I" } : Jvm.MethodName)) ∈ wAll := memL17 _ (List.mem_of_getElem? (i := 12) rfl)
theorem mW100 : (Jvm.Cond.fieldLinkNest "CommandHouse" (71 : Nat) "CommandHouse$Book" "flow" "I" "CommandHouse") ∈ wAll := memL17 _ (List.mem_of_getElem? (i := 13) rfl)
theorem mW586 : (Jvm.Cond.fieldLinkNest "CommandHouse" (77 : Nat) "CommandHouse$Machine" "state" "LCommandHouse$State;" "CommandHouse") ∈ wAll := memL17 _ (List.mem_of_getElem? (i := 14) rfl)
theorem mW333 : (Jvm.Cond.fieldLinkNest "CommandHouse" (81 : Nat) "CommandHouse$State" "status" "I" "CommandHouse") ∈ wAll := memL17 _ (List.mem_of_getElem? (i := 15) rfl)
theorem mW665 : (Jvm.Cond.methodLinkNest "CommandHouse" (61 : Nat) ({ cls := "CommandHouse$Input", name := "<init>", desc := "(LCommandHouse$Bytes;)V" } : Jvm.MethodName) "CommandHouse") ∈ wAll := memL17 _ (List.mem_of_getElem? (i := 16) rfl)
theorem mW673 : (Jvm.Cond.code ({ cls := "CommandHouse$Book", name := "begin", desc := "()V" } : Jvm.MethodName) prog_2_method_2_code (1 : Nat) (Option.none : Option Jvm.ClassFile.FieldType)) ∈ wAll := memL17 _ (List.mem_of_getElem? (i := 17) rfl)
theorem mW670 : (Jvm.Cond.methodLinkNest "CommandHouse$Machine" (85 : Nat) ({ cls := "CommandHouse$Book", name := "begin", desc := "()V" } : Jvm.MethodName) "CommandHouse") ∈ wAll := memL17 _ (List.mem_of_getElem? (i := 18) rfl)
theorem mW672 : (Jvm.Cond.instanceMethod ({ cls := "CommandHouse$Book", name := "begin", desc := "()V" } : Jvm.MethodName)) ∈ wAll := memL17 _ (List.mem_of_getElem? (i := 19) rfl)
theorem mW677 : (Jvm.Cond.code ({ cls := "CommandHouse$Words", name := "begin", desc := "()V" } : Jvm.MethodName) prog_13_method_2_code (1 : Nat) (Option.none : Option Jvm.ClassFile.FieldType)) ∈ wAll := memL18 _ (List.mem_of_getElem? (i := 0) rfl)
theorem mW674 : (Jvm.Cond.methodLinkNest "CommandHouse$Machine" (88 : Nat) ({ cls := "CommandHouse$Words", name := "begin", desc := "()V" } : Jvm.MethodName) "CommandHouse") ∈ wAll := memL18 _ (List.mem_of_getElem? (i := 1) rfl)
theorem mW676 : (Jvm.Cond.instanceMethod ({ cls := "CommandHouse$Words", name := "begin", desc := "()V" } : Jvm.MethodName)) ∈ wAll := memL18 _ (List.mem_of_getElem? (i := 2) rfl)
theorem mW685 : (Jvm.Cond.code ({ cls := "CommandHouse$State", name := "setParameters", desc := "([LCommandHouse$Bytes;I)V" } : Jvm.MethodName) prog_12_method_6_code (3 : Nat) (Option.none : Option Jvm.ClassFile.FieldType)) ∈ wAll := memL18 _ (List.mem_of_getElem? (i := 3) rfl)
theorem mW682 : (Jvm.Cond.methodLink "CommandHouse$State" (49 : Nat) ({ cls := "CommandHouse$State", name := "setParameters", desc := "([LCommandHouse$Bytes;I)V" } : Jvm.MethodName)) ∈ wAll := memL18 _ (List.mem_of_getElem? (i := 4) rfl)
theorem mW684 : (Jvm.Cond.instanceMethod ({ cls := "CommandHouse$State", name := "setParameters", desc := "([LCommandHouse$Bytes;I)V" } : Jvm.MethodName)) ∈ wAll := memL18 _ (List.mem_of_getElem? (i := 5) rfl)
theorem mW681 : (Jvm.Cond.code ({ cls := "CommandHouse$State", name := "clear", desc := "([LCommandHouse$Bytes;)V" } : Jvm.MethodName) prog_12_method_2_code (2 : Nat) (Option.none : Option Jvm.ClassFile.FieldType)) ∈ wAll := memL18 _ (List.mem_of_getElem? (i := 6) rfl)
theorem mW678 : (Jvm.Cond.methodLinkNest "CommandHouse$Machine" (91 : Nat) ({ cls := "CommandHouse$State", name := "clear", desc := "([LCommandHouse$Bytes;)V" } : Jvm.MethodName) "CommandHouse") ∈ wAll := memL18 _ (List.mem_of_getElem? (i := 7) rfl)
theorem mW680 : (Jvm.Cond.instanceMethod ({ cls := "CommandHouse$State", name := "clear", desc := "([LCommandHouse$Bytes;)V" } : Jvm.MethodName)) ∈ wAll := memL18 _ (List.mem_of_getElem? (i := 8) rfl)
theorem mW693 : (Jvm.Cond.code ({ cls := "java/util/ArrayList", name := "size", desc := "()I" } : Jvm.MethodName) prog_30_method_8_code (1 : Nat) (Option.some Jvm.ClassFile.FieldType.int)) ∈ wAll := memL18 _ (List.mem_of_getElem? (i := 9) rfl)
theorem mW690 : (Jvm.Cond.methodLink "CommandHouse$Machine" (115 : Nat) ({ cls := "java/util/ArrayList", name := "size", desc := "()I" } : Jvm.MethodName)) ∈ wAll := memL18 _ (List.mem_of_getElem? (i := 10) rfl)
theorem mW691 : (Jvm.Cond.instanceMethod ({ cls := "java/util/ArrayList", name := "size", desc := "()I" } : Jvm.MethodName)) ∈ wAll := memL18 _ (List.mem_of_getElem? (i := 11) rfl)
theorem mW692 : (Jvm.Cond.selects "java/util/ArrayList" ({ cls := "java/util/ArrayList", name := "size", desc := "()I" } : Jvm.MethodName) ({ cls := "java/util/ArrayList", name := "size", desc := "()I" } : Jvm.MethodName)) ∈ wAll := memL18 _ (List.mem_of_getElem? (i := 12) rfl)
theorem mW703 : (Jvm.Cond.code ({ cls := "jdk/internal/util/Preconditions", name := "checkIndex", desc := "(IILjava/util/function/BiFunction;)I" } : Jvm.MethodName) prog_38_method_11_code (3 : Nat) (Option.some Jvm.ClassFile.FieldType.int)) ∈ wAll := memL18 _ (List.mem_of_getElem? (i := 13) rfl)
theorem mW22 : (Jvm.Cond.initialized "jdk/internal/util/Preconditions") ∈ wAll := memL18 _ (List.mem_of_getElem? (i := 14) rfl)
theorem mW701 : (Jvm.Cond.methodLink "java/util/Objects" (105 : Nat) ({ cls := "jdk/internal/util/Preconditions", name := "checkIndex", desc := "(IILjava/util/function/BiFunction;)I" } : Jvm.MethodName)) ∈ wAll := memL18 _ (List.mem_of_getElem? (i := 15) rfl)
theorem mW702 : (Jvm.Cond.static ({ cls := "jdk/internal/util/Preconditions", name := "checkIndex", desc := "(IILjava/util/function/BiFunction;)I" } : Jvm.MethodName)) ∈ wAll := memL18 _ (List.mem_of_getElem? (i := 16) rfl)
theorem mW700 : (Jvm.Cond.code ({ cls := "java/util/Objects", name := "checkIndex", desc := "(II)I" } : Jvm.MethodName) prog_34_method_17_code (2 : Nat) (Option.some Jvm.ClassFile.FieldType.int)) ∈ wAll := memL18 _ (List.mem_of_getElem? (i := 17) rfl)
theorem mW21 : (Jvm.Cond.initialized "java/util/Objects") ∈ wAll := memL18 _ (List.mem_of_getElem? (i := 18) rfl)
theorem mW698 : (Jvm.Cond.methodLink "java/util/ArrayList" (118 : Nat) ({ cls := "java/util/Objects", name := "checkIndex", desc := "(II)I" } : Jvm.MethodName)) ∈ wAll := memL18 _ (List.mem_of_getElem? (i := 19) rfl)
theorem mW699 : (Jvm.Cond.static ({ cls := "java/util/Objects", name := "checkIndex", desc := "(II)I" } : Jvm.MethodName)) ∈ wAll := memL19 _ (List.mem_of_getElem? (i := 0) rfl)
theorem mW707 : (Jvm.Cond.code ({ cls := "java/util/ArrayList", name := "elementData", desc := "(I)Ljava/lang/Object;" } : Jvm.MethodName) prog_30_method_18_code (2 : Nat) (Option.some (Jvm.ClassFile.FieldType.object "java/lang/Object"))) ∈ wAll := memL19 _ (List.mem_of_getElem? (i := 1) rfl)
theorem mW704 : (Jvm.Cond.methodLink "java/util/ArrayList" (123 : Nat) ({ cls := "java/util/ArrayList", name := "elementData", desc := "(I)Ljava/lang/Object;" } : Jvm.MethodName)) ∈ wAll := memL19 _ (List.mem_of_getElem? (i := 2) rfl)
theorem mW705 : (Jvm.Cond.instanceMethod ({ cls := "java/util/ArrayList", name := "elementData", desc := "(I)Ljava/lang/Object;" } : Jvm.MethodName)) ∈ wAll := memL19 _ (List.mem_of_getElem? (i := 3) rfl)
theorem mW706 : (Jvm.Cond.selects "java/util/ArrayList" ({ cls := "java/util/ArrayList", name := "elementData", desc := "(I)Ljava/lang/Object;" } : Jvm.MethodName) ({ cls := "java/util/ArrayList", name := "elementData", desc := "(I)Ljava/lang/Object;" } : Jvm.MethodName)) ∈ wAll := memL19 _ (List.mem_of_getElem? (i := 4) rfl)
theorem mW697 : (Jvm.Cond.code ({ cls := "java/util/ArrayList", name := "get", desc := "(I)Ljava/lang/Object;" } : Jvm.MethodName) prog_30_method_20_code (2 : Nat) (Option.some (Jvm.ClassFile.FieldType.object "java/lang/Object"))) ∈ wAll := memL19 _ (List.mem_of_getElem? (i := 5) rfl)
theorem mW694 : (Jvm.Cond.methodLink "CommandHouse$Machine" (119 : Nat) ({ cls := "java/util/ArrayList", name := "get", desc := "(I)Ljava/lang/Object;" } : Jvm.MethodName)) ∈ wAll := memL19 _ (List.mem_of_getElem? (i := 6) rfl)
theorem mW695 : (Jvm.Cond.instanceMethod ({ cls := "java/util/ArrayList", name := "get", desc := "(I)Ljava/lang/Object;" } : Jvm.MethodName)) ∈ wAll := memL19 _ (List.mem_of_getElem? (i := 7) rfl)
theorem mW696 : (Jvm.Cond.selects "java/util/ArrayList" ({ cls := "java/util/ArrayList", name := "get", desc := "(I)Ljava/lang/Object;" } : Jvm.MethodName) ({ cls := "java/util/ArrayList", name := "get", desc := "(I)Ljava/lang/Object;" } : Jvm.MethodName)) ∈ wAll := memL19 _ (List.mem_of_getElem? (i := 8) rfl)
theorem mW689 : (Jvm.Cond.code ({ cls := "CommandHouse$Machine", name := "push", desc := "(I)LCommandHouse$Frame;" } : Jvm.MethodName) prog_9_method_3_code (3 : Nat) (Option.some (Jvm.ClassFile.FieldType.object "CommandHouse$Frame"))) ∈ wAll := memL19 _ (List.mem_of_getElem? (i := 9) rfl)
theorem mW686 : (Jvm.Cond.methodLink "CommandHouse$Machine" (104 : Nat) ({ cls := "CommandHouse$Machine", name := "push", desc := "(I)LCommandHouse$Frame;" } : Jvm.MethodName)) ∈ wAll := memL19 _ (List.mem_of_getElem? (i := 10) rfl)
theorem mW688 : (Jvm.Cond.instanceMethod ({ cls := "CommandHouse$Machine", name := "push", desc := "(I)LCommandHouse$Frame;" } : Jvm.MethodName)) ∈ wAll := memL19 _ (List.mem_of_getElem? (i := 11) rfl)
theorem mW711 : (Jvm.Cond.code ({ cls := "CommandHouse$Book", name := "spend", desc := "(I)Z" } : Jvm.MethodName) prog_2_method_5_code (2 : Nat) (Option.some Jvm.ClassFile.FieldType.boolean)) ∈ wAll := memL19 _ (List.mem_of_getElem? (i := 12) rfl)
theorem mW708 : (Jvm.Cond.methodLinkNest "CommandHouse$Machine" (111 : Nat) ({ cls := "CommandHouse$Book", name := "spend", desc := "(I)Z" } : Jvm.MethodName) "CommandHouse") ∈ wAll := memL19 _ (List.mem_of_getElem? (i := 13) rfl)
theorem mW710 : (Jvm.Cond.instanceMethod ({ cls := "CommandHouse$Book", name := "spend", desc := "(I)Z" } : Jvm.MethodName)) ∈ wAll := memL19 _ (List.mem_of_getElem? (i := 14) rfl)
theorem mW669 : (Jvm.Cond.code ({ cls := "CommandHouse$Machine", name := "begin", desc := "(LCommandHouse$Bytes;LCommandHouse$Input;)V" } : Jvm.MethodName) prog_9_method_2_code (3 : Nat) (Option.none : Option Jvm.ClassFile.FieldType)) ∈ wAll := memL19 _ (List.mem_of_getElem? (i := 15) rfl)
theorem mW666 : (Jvm.Cond.methodLinkNest "CommandHouse" (64 : Nat) ({ cls := "CommandHouse$Machine", name := "begin", desc := "(LCommandHouse$Bytes;LCommandHouse$Input;)V" } : Jvm.MethodName) "CommandHouse") ∈ wAll := memL19 _ (List.mem_of_getElem? (i := 16) rfl)
theorem mW668 : (Jvm.Cond.instanceMethod ({ cls := "CommandHouse$Machine", name := "begin", desc := "(LCommandHouse$Bytes;LCommandHouse$Input;)V" } : Jvm.MethodName)) ∈ wAll := memL19 _ (List.mem_of_getElem? (i := 17) rfl)
theorem mW750 : (Jvm.Cond.code ({ cls := "CommandHouse$Script", name := "codeAt", desc := "(I)I" } : Jvm.MethodName) prog_11_method_3_code (2 : Nat) (Option.some Jvm.ClassFile.FieldType.int)) ∈ wAll := memL19 _ (List.mem_of_getElem? (i := 18) rfl)
theorem mW747 : (Jvm.Cond.methodLinkNest "CommandHouse$Machine" (205 : Nat) ({ cls := "CommandHouse$Script", name := "codeAt", desc := "(I)I" } : Jvm.MethodName) "CommandHouse") ∈ wAll := memL19 _ (List.mem_of_getElem? (i := 19) rfl)
theorem mW749 : (Jvm.Cond.instanceMethod ({ cls := "CommandHouse$Script", name := "codeAt", desc := "(I)I" } : Jvm.MethodName)) ∈ wAll := memL20 _ (List.mem_of_getElem? (i := 0) rfl)
theorem mW1625 : (Jvm.Cond.code ({ cls := "CommandHouse$Script", name := "isWrong", desc := "()Z" } : Jvm.MethodName) prog_11_method_4_code (1 : Nat) (Option.some Jvm.ClassFile.FieldType.boolean)) ∈ wAll := memL20 _ (List.mem_of_getElem? (i := 1) rfl)
theorem mW1622 : (Jvm.Cond.methodLink "CommandHouse$Script" (46 : Nat) ({ cls := "CommandHouse$Script", name := "isWrong", desc := "()Z" } : Jvm.MethodName)) ∈ wAll := memL20 _ (List.mem_of_getElem? (i := 2) rfl)
theorem mW1624 : (Jvm.Cond.instanceMethod ({ cls := "CommandHouse$Script", name := "isWrong", desc := "()Z" } : Jvm.MethodName)) ∈ wAll := memL20 _ (List.mem_of_getElem? (i := 3) rfl)
theorem mW1633 : (Jvm.Cond.code ({ cls := "CommandHouse$Script", name := "at", desc := "(I)I" } : Jvm.MethodName) prog_11_method_6_code (2 : Nat) (Option.some Jvm.ClassFile.FieldType.int)) ∈ wAll := memL20 _ (List.mem_of_getElem? (i := 4) rfl)
theorem mW1630 : (Jvm.Cond.methodLink "CommandHouse$Script" (84 : Nat) ({ cls := "CommandHouse$Script", name := "at", desc := "(I)I" } : Jvm.MethodName)) ∈ wAll := memL20 _ (List.mem_of_getElem? (i := 5) rfl)
theorem mW1632 : (Jvm.Cond.instanceMethod ({ cls := "CommandHouse$Script", name := "at", desc := "(I)I" } : Jvm.MethodName)) ∈ wAll := memL20 _ (List.mem_of_getElem? (i := 6) rfl)
theorem mW1629 : (Jvm.Cond.code ({ cls := "CommandHouse$Script", name := "passBlanks", desc := "()V" } : Jvm.MethodName) prog_11_method_12_code (2 : Nat) (Option.none : Option Jvm.ClassFile.FieldType)) ∈ wAll := memL20 _ (List.mem_of_getElem? (i := 7) rfl)
theorem mW1626 : (Jvm.Cond.methodLink "CommandHouse$Script" (78 : Nat) ({ cls := "CommandHouse$Script", name := "passBlanks", desc := "()V" } : Jvm.MethodName)) ∈ wAll := memL20 _ (List.mem_of_getElem? (i := 8) rfl)
theorem mW1628 : (Jvm.Cond.instanceMethod ({ cls := "CommandHouse$Script", name := "passBlanks", desc := "()V" } : Jvm.MethodName)) ∈ wAll := memL20 _ (List.mem_of_getElem? (i := 9) rfl)
theorem mW1638 : (Jvm.Cond.code ({ cls := "CommandHouse$Script", name := "takeTexts", desc := "()V" } : Jvm.MethodName) prog_11_method_16_code (9 : Nat) (Option.none : Option Jvm.ClassFile.FieldType)) ∈ wAll := memL20 _ (List.mem_of_getElem? (i := 10) rfl)
theorem mW1635 : (Jvm.Cond.methodLink "CommandHouse$Script" (91 : Nat) ({ cls := "CommandHouse$Script", name := "takeTexts", desc := "()V" } : Jvm.MethodName)) ∈ wAll := memL20 _ (List.mem_of_getElem? (i := 11) rfl)
theorem mW1637 : (Jvm.Cond.instanceMethod ({ cls := "CommandHouse$Script", name := "takeTexts", desc := "()V" } : Jvm.MethodName)) ∈ wAll := memL20 _ (List.mem_of_getElem? (i := 12) rfl)
theorem mW1621 : (Jvm.Cond.code ({ cls := "CommandHouse$Script", name := "advance", desc := "()V" } : Jvm.MethodName) prog_11_method_11_code (2 : Nat) (Option.none : Option Jvm.ClassFile.FieldType)) ∈ wAll := memL20 _ (List.mem_of_getElem? (i := 13) rfl)
theorem mW1618 : (Jvm.Cond.methodLink "CommandHouse$Script" (40 : Nat) ({ cls := "CommandHouse$Script", name := "advance", desc := "()V" } : Jvm.MethodName)) ∈ wAll := memL20 _ (List.mem_of_getElem? (i := 14) rfl)
theorem mW1620 : (Jvm.Cond.instanceMethod ({ cls := "CommandHouse$Script", name := "advance", desc := "()V" } : Jvm.MethodName)) ∈ wAll := memL20 _ (List.mem_of_getElem? (i := 15) rfl)
theorem mW1675 : (Jvm.Cond.code ({ cls := "CommandHouse$Script", name := "skipLines", desc := "()V" } : Jvm.MethodName) prog_11_method_19_code (2 : Nat) (Option.none : Option Jvm.ClassFile.FieldType)) ∈ wAll := memL20 _ (List.mem_of_getElem? (i := 16) rfl)
theorem mW1672 : (Jvm.Cond.methodLink "CommandHouse$Script" (43 : Nat) ({ cls := "CommandHouse$Script", name := "skipLines", desc := "()V" } : Jvm.MethodName)) ∈ wAll := memL20 _ (List.mem_of_getElem? (i := 17) rfl)
theorem mW1674 : (Jvm.Cond.instanceMethod ({ cls := "CommandHouse$Script", name := "skipLines", desc := "()V" } : Jvm.MethodName)) ∈ wAll := memL20 _ (List.mem_of_getElem? (i := 18) rfl)
theorem mW1617 : (Jvm.Cond.code ({ cls := "CommandHouse$Script", name := "next", desc := "()I" } : Jvm.MethodName) prog_11_method_2_code (3 : Nat) (Option.some Jvm.ClassFile.FieldType.int)) ∈ wAll := memL20 _ (List.mem_of_getElem? (i := 19) rfl)
theorem mW1614 : (Jvm.Cond.methodLinkNest "CommandHouse$Machine" (187 : Nat) ({ cls := "CommandHouse$Script", name := "next", desc := "()I" } : Jvm.MethodName) "CommandHouse") ∈ wAll := memL21 _ (List.mem_of_getElem? (i := 0) rfl)
theorem mW1616 : (Jvm.Cond.instanceMethod ({ cls := "CommandHouse$Script", name := "next", desc := "()I" } : Jvm.MethodName)) ∈ wAll := memL21 _ (List.mem_of_getElem? (i := 1) rfl)
theorem mW729 : (Jvm.Cond.code ({ cls := "CommandHouse$Machine", name := "frameAt", desc := "(I)LCommandHouse$Frame;" } : Jvm.MethodName) prog_9_method_4_code (2 : Nat) (Option.some (Jvm.ClassFile.FieldType.object "CommandHouse$Frame"))) ∈ wAll := memL21 _ (List.mem_of_getElem? (i := 2) rfl)
theorem mW726 : (Jvm.Cond.methodLink "CommandHouse$Machine" (147 : Nat) ({ cls := "CommandHouse$Machine", name := "frameAt", desc := "(I)LCommandHouse$Frame;" } : Jvm.MethodName)) ∈ wAll := memL21 _ (List.mem_of_getElem? (i := 3) rfl)
theorem mW728 : (Jvm.Cond.instanceMethod ({ cls := "CommandHouse$Machine", name := "frameAt", desc := "(I)LCommandHouse$Frame;" } : Jvm.MethodName)) ∈ wAll := memL21 _ (List.mem_of_getElem? (i := 4) rfl)
theorem mW738 : (Jvm.Cond.code ({ cls := "CommandHouse$Machine", name := "top", desc := "()LCommandHouse$Frame;" } : Jvm.MethodName) prog_9_method_5_code (1 : Nat) (Option.some (Jvm.ClassFile.FieldType.object "CommandHouse$Frame"))) ∈ wAll := memL21 _ (List.mem_of_getElem? (i := 5) rfl)
theorem mW735 : (Jvm.Cond.methodLink "CommandHouse$Machine" (150 : Nat) ({ cls := "CommandHouse$Machine", name := "top", desc := "()LCommandHouse$Frame;" } : Jvm.MethodName)) ∈ wAll := memL21 _ (List.mem_of_getElem? (i := 6) rfl)
theorem mW737 : (Jvm.Cond.instanceMethod ({ cls := "CommandHouse$Machine", name := "top", desc := "()LCommandHouse$Frame;" } : Jvm.MethodName)) ∈ wAll := memL21 _ (List.mem_of_getElem? (i := 7) rfl)
theorem mW746 : (Jvm.Cond.code ({ cls := "CommandHouse$Machine", name := "comeBack", desc := "(LCommandHouse$Frame;)V" } : Jvm.MethodName) prog_9_method_7_code (2 : Nat) (Option.none : Option Jvm.ClassFile.FieldType)) ∈ wAll := memL21 _ (List.mem_of_getElem? (i := 8) rfl)
theorem mW743 : (Jvm.Cond.methodLink "CommandHouse$Machine" (154 : Nat) ({ cls := "CommandHouse$Machine", name := "comeBack", desc := "(LCommandHouse$Frame;)V" } : Jvm.MethodName)) ∈ wAll := memL21 _ (List.mem_of_getElem? (i := 9) rfl)
theorem mW745 : (Jvm.Cond.instanceMethod ({ cls := "CommandHouse$Machine", name := "comeBack", desc := "(LCommandHouse$Frame;)V" } : Jvm.MethodName)) ∈ wAll := memL21 _ (List.mem_of_getElem? (i := 10) rfl)
theorem mW742 : (Jvm.Cond.code ({ cls := "CommandHouse$Machine", name := "pop", desc := "()V" } : Jvm.MethodName) prog_9_method_6_code (1 : Nat) (Option.none : Option Jvm.ClassFile.FieldType)) ∈ wAll := memL21 _ (List.mem_of_getElem? (i := 11) rfl)
theorem mW739 : (Jvm.Cond.methodLink "CommandHouse$Machine" (181 : Nat) ({ cls := "CommandHouse$Machine", name := "pop", desc := "()V" } : Jvm.MethodName)) ∈ wAll := memL21 _ (List.mem_of_getElem? (i := 12) rfl)
theorem mW741 : (Jvm.Cond.instanceMethod ({ cls := "CommandHouse$Machine", name := "pop", desc := "()V" } : Jvm.MethodName)) ∈ wAll := memL21 _ (List.mem_of_getElem? (i := 13) rfl)
theorem mW1613 : (Jvm.Cond.code ({ cls := "CommandHouse$Machine", name := "proceed", desc := "()V" } : Jvm.MethodName) prog_9_method_12_code (4 : Nat) (Option.none : Option Jvm.ClassFile.FieldType)) ∈ wAll := memL21 _ (List.mem_of_getElem? (i := 14) rfl)
theorem mW1610 : (Jvm.Cond.methodLink "CommandHouse$Machine" (252 : Nat) ({ cls := "CommandHouse$Machine", name := "proceed", desc := "()V" } : Jvm.MethodName)) ∈ wAll := memL21 _ (List.mem_of_getElem? (i := 15) rfl)
theorem mW1612 : (Jvm.Cond.instanceMethod ({ cls := "CommandHouse$Machine", name := "proceed", desc := "()V" } : Jvm.MethodName)) ∈ wAll := memL21 _ (List.mem_of_getElem? (i := 16) rfl)
theorem mW1593 : (Jvm.Cond.code ({ cls := "CommandHouse$Machine", name := "step", desc := "(LCommandHouse$Script;I)V" } : Jvm.MethodName) prog_9_method_18_code (3 : Nat) (Option.none : Option Jvm.ClassFile.FieldType)) ∈ wAll := memL21 _ (List.mem_of_getElem? (i := 17) rfl)
theorem mW1590 : (Jvm.Cond.methodLink "CommandHouse$Machine" (212 : Nat) ({ cls := "CommandHouse$Machine", name := "step", desc := "(LCommandHouse$Script;I)V" } : Jvm.MethodName)) ∈ wAll := memL21 _ (List.mem_of_getElem? (i := 18) rfl)
theorem mW1592 : (Jvm.Cond.instanceMethod ({ cls := "CommandHouse$Machine", name := "step", desc := "(LCommandHouse$Script;I)V" } : Jvm.MethodName)) ∈ wAll := memL21 _ (List.mem_of_getElem? (i := 19) rfl)
theorem mW720 : (Jvm.Cond.code ({ cls := "CommandHouse$Machine", name := "execute", desc := "(I)V" } : Jvm.MethodName) prog_9_method_13_code (4 : Nat) (Option.none : Option Jvm.ClassFile.FieldType)) ∈ wAll := memL22 _ (List.mem_of_getElem? (i := 0) rfl)
theorem mW717 : (Jvm.Cond.methodLinkNest "CommandHouse" (68 : Nat) ({ cls := "CommandHouse$Machine", name := "execute", desc := "(I)V" } : Jvm.MethodName) "CommandHouse") ∈ wAll := memL22 _ (List.mem_of_getElem? (i := 1) rfl)
theorem mW719 : (Jvm.Cond.instanceMethod ({ cls := "CommandHouse$Machine", name := "execute", desc := "(I)V" } : Jvm.MethodName)) ∈ wAll := memL22 _ (List.mem_of_getElem? (i := 2) rfl)
theorem mW663 : (Jvm.Cond.code ({ cls := "CommandHouse", name := "run", desc := "()I" } : Jvm.MethodName) prog_1_method_5_code (3 : Nat) (Option.some Jvm.ClassFile.FieldType.int)) ∈ wAll := memL22 _ (List.mem_of_getElem? (i := 3) rfl)
theorem mW660 : (Jvm.Cond.methodLink "CommandHouseLaw" (28 : Nat) ({ cls := "CommandHouse", name := "run", desc := "()I" } : Jvm.MethodName)) ∈ wAll := memL22 _ (List.mem_of_getElem? (i := 4) rfl)
theorem mW661 : (Jvm.Cond.instanceMethod ({ cls := "CommandHouse", name := "run", desc := "()I" } : Jvm.MethodName)) ∈ wAll := memL22 _ (List.mem_of_getElem? (i := 5) rfl)
theorem mW662 : (Jvm.Cond.selects "CommandHouse" ({ cls := "CommandHouse", name := "run", desc := "()I" } : Jvm.MethodName) ({ cls := "CommandHouse", name := "run", desc := "()I" } : Jvm.MethodName)) ∈ wAll := memL22 _ (List.mem_of_getElem? (i := 6) rfl)
theorem mW1895 : (Jvm.Cond.fieldLink "CommandHouseModel" (587 : Nat) "CommandHouseModel" "scripted" "I") ∈ wAll := memL22 _ (List.mem_of_getElem? (i := 7) rfl)
theorem mW1903 : (Jvm.Cond.fieldLink "CommandHouseModel" (298 : Nat) "CommandHouseModel" "texted" "I") ∈ wAll := memL22 _ (List.mem_of_getElem? (i := 8) rfl)
theorem mW1959 : (Jvm.Cond.fieldLink "CommandHouseModel" (683 : Nat) "CommandHouseModel" "mades" "I") ∈ wAll := memL22 _ (List.mem_of_getElem? (i := 9) rfl)
theorem mW1964 : (Jvm.Cond.fieldLink "CommandHouseModel" (385 : Nat) "CommandHouseModel" "fields" "I") ∈ wAll := memL22 _ (List.mem_of_getElem? (i := 10) rfl)
theorem mW1965 : (Jvm.Cond.fieldLink "CommandHouseModel" (388 : Nat) "CommandHouseModel" "fieldBase" "I") ∈ wAll := memL22 _ (List.mem_of_getElem? (i := 11) rfl)
theorem mW1921 : (Jvm.Cond.fieldLink "CommandHouseModel" (420 : Nat) "CommandHouseModel" "saves" "I") ∈ wAll := memL22 _ (List.mem_of_getElem? (i := 12) rfl)
theorem mW1944 : (Jvm.Cond.fieldLink "CommandHouseModel" (262 : Nat) "CommandHouseModel" "keeps" "I") ∈ wAll := memL22 _ (List.mem_of_getElem? (i := 13) rfl)
theorem mW1952 : (Jvm.Cond.fieldLink "CommandHouseModel" (286 : Nat) "CommandHouseModel" "inputs" "I") ∈ wAll := memL22 _ (List.mem_of_getElem? (i := 14) rfl)
theorem mW1948 : (Jvm.Cond.fieldLink "CommandHouseModel" (499 : Nat) "CommandHouseModel" "caught" "I") ∈ wAll := memL22 _ (List.mem_of_getElem? (i := 15) rfl)
theorem mW1904 : (Jvm.Cond.fieldLink "CommandHouseModel" (529 : Nat) "CommandHouseModel" "variables" "I") ∈ wAll := memL22 _ (List.mem_of_getElem? (i := 16) rfl)
theorem mW1909 : (Jvm.Cond.fieldLink "CommandHouseModel" (395 : Nat) "CommandHouseModel" "parameters" "I") ∈ wAll := memL22 _ (List.mem_of_getElem? (i := 17) rfl)
theorem mW1912 : (Jvm.Cond.fieldLink "CommandHouseModel" (551 : Nat) "CommandHouseModel" "functions" "I") ∈ wAll := memL22 _ (List.mem_of_getElem? (i := 18) rfl)
theorem mW1917 : (Jvm.Cond.fieldLink "CommandHouseModel" (572 : Nat) "CommandHouseModel" "unsetFails" "Z") ∈ wAll := memL22 _ (List.mem_of_getElem? (i := 19) rfl)
theorem mW1918 : (Jvm.Cond.fieldLink "CommandHouseModel" (575 : Nat) "CommandHouseModel" "noNames" "Z") ∈ wAll := memL23 _ (List.mem_of_getElem? (i := 0) rfl)
theorem mW1919 : (Jvm.Cond.fieldLink "CommandHouseModel" (259 : Nat) "CommandHouseModel" "status" "I") ∈ wAll := memL23 _ (List.mem_of_getElem? (i := 1) rfl)
theorem mW1888 : (Jvm.Cond.fieldLink "CommandHouseModel" (496 : Nat) "CommandHouseModel" "outs" "I") ∈ wAll := memL23 _ (List.mem_of_getElem? (i := 2) rfl)
theorem mW1889 : (Jvm.Cond.fieldLink "CommandHouseModel" (493 : Nat) "CommandHouseModel" "diagnostics" "I") ∈ wAll := memL23 _ (List.mem_of_getElem? (i := 3) rfl)
theorem mW1893 : (Jvm.Cond.fieldLink "CommandHouseModel" (469 : Nat) "CommandHouseModel" "simple" "I") ∈ wAll := memL23 _ (List.mem_of_getElem? (i := 4) rfl)
theorem mW1927 : (Jvm.Cond.fieldLink "CommandHouseModel" (227 : Nat) "CommandHouseModel" "flow" "I") ∈ wAll := memL23 _ (List.mem_of_getElem? (i := 5) rfl)
theorem mW1929 : (Jvm.Cond.fieldLink "CommandHouseModel" (483 : Nat) "CommandHouseModel" "limit" "I") ∈ wAll := memL23 _ (List.mem_of_getElem? (i := 6) rfl)
theorem mW1930 : (Jvm.Cond.fieldLink "CommandHouseModel" (376 : Nat) "CommandHouseModel" "loops" "I") ∈ wAll := memL23 _ (List.mem_of_getElem? (i := 7) rfl)
theorem mW1931 : (Jvm.Cond.fieldLink "CommandHouseModel" (584 : Nat) "CommandHouseModel" "calls" "I") ∈ wAll := memL23 _ (List.mem_of_getElem? (i := 8) rfl)
theorem mW1932 : (Jvm.Cond.fieldLink "CommandHouseModel" (557 : Nat) "CommandHouseModel" "levels" "I") ∈ wAll := memL23 _ (List.mem_of_getElem? (i := 9) rfl)
theorem mW1940 : (Jvm.Cond.fieldLink "CommandHouseModel" (311 : Nat) "CommandHouseModel" "deep" "I") ∈ wAll := memL23 _ (List.mem_of_getElem? (i := 10) rfl)
theorem mW1947 : (Jvm.Cond.fieldLink "CommandHouseModel" (289 : Nat) "CommandHouseModel" "sink" "I") ∈ wAll := memL23 _ (List.mem_of_getElem? (i := 11) rfl)
theorem mW1951 : (Jvm.Cond.fieldLink "CommandHouseModel" (283 : Nat) "CommandHouseModel" "input" "I") ∈ wAll := memL23 _ (List.mem_of_getElem? (i := 12) rfl)
theorem mW1892 : (Jvm.Cond.fieldLink "CommandHouseModel" (486 : Nat) "CommandHouseModel" "work" "I") ∈ wAll := memL23 _ (List.mem_of_getElem? (i := 13) rfl)
theorem mW2183 : (Jvm.Cond.constant "CommandHouseModel" (489 : Nat) (150000 : Int32)) ∈ wAll := memL23 _ (List.mem_of_getElem? (i := 14) rfl)
theorem mW1934 : (Jvm.Cond.fieldLink "CommandHouseModel" (169 : Nat) "CommandHouseModel" "at" "I") ∈ wAll := memL23 _ (List.mem_of_getElem? (i := 15) rfl)
theorem mW1935 : (Jvm.Cond.fieldLink "CommandHouseModel" (143 : Nat) "CommandHouseModel" "stop" "I") ∈ wAll := memL23 _ (List.mem_of_getElem? (i := 16) rfl)
theorem mW1936 : (Jvm.Cond.fieldLink "CommandHouseModel" (166 : Nat) "CommandHouseModel" "token" "I") ∈ wAll := memL23 _ (List.mem_of_getElem? (i := 17) rfl)
theorem mW1937 : (Jvm.Cond.fieldLink "CommandHouseModel" (175 : Nat) "CommandHouseModel" "tokenFrom" "I") ∈ wAll := memL23 _ (List.mem_of_getElem? (i := 18) rfl)
theorem mW1938 : (Jvm.Cond.fieldLink "CommandHouseModel" (172 : Nat) "CommandHouseModel" "tokenTo" "I") ∈ wAll := memL23 _ (List.mem_of_getElem? (i := 19) rfl)
theorem mW1901 : (Jvm.Cond.fieldLink "CommandHouseModel" (194 : Nat) "CommandHouseModel" "waits" "I") ∈ wAll := memL24 _ (List.mem_of_getElem? (i := 0) rfl)
theorem mW1942 : (Jvm.Cond.fieldLink "CommandHouseModel" (209 : Nat) "CommandHouseModel" "checks" "Z") ∈ wAll := memL24 _ (List.mem_of_getElem? (i := 1) rfl)
theorem mW2178 : (Jvm.Cond.code ({ cls := "CommandHouseModel", name := "newInput", desc := "(III)I" } : Jvm.MethodName) prog_15_method_70_code (4 : Nat) (Option.some Jvm.ClassFile.FieldType.int)) ∈ wAll := memL24 _ (List.mem_of_getElem? (i := 2) rfl)
theorem mW2175 : (Jvm.Cond.methodLink "CommandHouseModel" (307 : Nat) ({ cls := "CommandHouseModel", name := "newInput", desc := "(III)I" } : Jvm.MethodName)) ∈ wAll := memL24 _ (List.mem_of_getElem? (i := 3) rfl)
theorem mW2177 : (Jvm.Cond.instanceMethod ({ cls := "CommandHouseModel", name := "newInput", desc := "(III)I" } : Jvm.MethodName)) ∈ wAll := memL24 _ (List.mem_of_getElem? (i := 4) rfl)
theorem mW2182 : (Jvm.Cond.code ({ cls := "CommandHouseModel", name := "addWork", desc := "(I)Z" } : Jvm.MethodName) prog_15_method_63_code (2 : Nat) (Option.some Jvm.ClassFile.FieldType.boolean)) ∈ wAll := memL24 _ (List.mem_of_getElem? (i := 5) rfl)
theorem mW2179 : (Jvm.Cond.methodLink "CommandHouseModel" (379 : Nat) ({ cls := "CommandHouseModel", name := "addWork", desc := "(I)Z" } : Jvm.MethodName)) ∈ wAll := memL24 _ (List.mem_of_getElem? (i := 6) rfl)
theorem mW2181 : (Jvm.Cond.instanceMethod ({ cls := "CommandHouseModel", name := "addWork", desc := "(I)Z" } : Jvm.MethodName)) ∈ wAll := memL24 _ (List.mem_of_getElem? (i := 7) rfl)
theorem mW2191 : (Jvm.Cond.code ({ cls := "CommandHouseModel", name := "begun", desc := "([III)I" } : Jvm.MethodName) prog_15_method_102_code (6 : Nat) (Option.some Jvm.ClassFile.FieldType.int)) ∈ wAll := memL24 _ (List.mem_of_getElem? (i := 8) rfl)
theorem mW2188 : (Jvm.Cond.methodLink "CommandHouseModel" (761 : Nat) ({ cls := "CommandHouseModel", name := "begun", desc := "([III)I" } : Jvm.MethodName)) ∈ wAll := memL24 _ (List.mem_of_getElem? (i := 9) rfl)
theorem mW2190 : (Jvm.Cond.instanceMethod ({ cls := "CommandHouseModel", name := "begun", desc := "([III)I" } : Jvm.MethodName)) ∈ wAll := memL24 _ (List.mem_of_getElem? (i := 10) rfl)
theorem mW2199 : (Jvm.Cond.code ({ cls := "CommandHouseModel", name := "keep", desc := "()V" } : Jvm.MethodName) prog_15_method_32_code (1 : Nat) (Option.none : Option Jvm.ClassFile.FieldType)) ∈ wAll := memL24 _ (List.mem_of_getElem? (i := 11) rfl)
theorem mW2196 : (Jvm.Cond.methodLink "CommandHouseModel" (268 : Nat) ({ cls := "CommandHouseModel", name := "keep", desc := "()V" } : Jvm.MethodName)) ∈ wAll := memL24 _ (List.mem_of_getElem? (i := 12) rfl)
theorem mW2198 : (Jvm.Cond.instanceMethod ({ cls := "CommandHouseModel", name := "keep", desc := "()V" } : Jvm.MethodName)) ∈ wAll := memL24 _ (List.mem_of_getElem? (i := 13) rfl)
theorem mW2215 : (Jvm.Cond.code ({ cls := "CommandHouseModel", name := "byteAt", desc := "(I)I" } : Jvm.MethodName) prog_15_method_7_code (2 : Nat) (Option.some Jvm.ClassFile.FieldType.int)) ∈ wAll := memL24 _ (List.mem_of_getElem? (i := 14) rfl)
theorem mW2212 : (Jvm.Cond.methodLink "CommandHouseModel" (146 : Nat) ({ cls := "CommandHouseModel", name := "byteAt", desc := "(I)I" } : Jvm.MethodName)) ∈ wAll := memL24 _ (List.mem_of_getElem? (i := 15) rfl)
theorem mW2214 : (Jvm.Cond.instanceMethod ({ cls := "CommandHouseModel", name := "byteAt", desc := "(I)I" } : Jvm.MethodName)) ∈ wAll := memL24 _ (List.mem_of_getElem? (i := 16) rfl)
theorem mW2218 : (Jvm.Cond.code ({ cls := "CommandHouseModel", name := "isBlank", desc := "(I)Z" } : Jvm.MethodName) prog_15_method_3_code (1 : Nat) (Option.some Jvm.ClassFile.FieldType.boolean)) ∈ wAll := memL24 _ (List.mem_of_getElem? (i := 17) rfl)
theorem mW2216 : (Jvm.Cond.methodLink "CommandHouseModel" (135 : Nat) ({ cls := "CommandHouseModel", name := "isBlank", desc := "(I)Z" } : Jvm.MethodName)) ∈ wAll := memL24 _ (List.mem_of_getElem? (i := 18) rfl)
theorem mW2217 : (Jvm.Cond.static ({ cls := "CommandHouseModel", name := "isBlank", desc := "(I)Z" } : Jvm.MethodName)) ∈ wAll := memL24 _ (List.mem_of_getElem? (i := 19) rfl)
theorem mW2211 : (Jvm.Cond.code ({ cls := "CommandHouseModel", name := "passBlanks", desc := "()V" } : Jvm.MethodName) prog_15_method_15_code (4 : Nat) (Option.none : Option Jvm.ClassFile.FieldType)) ∈ wAll := memL25 _ (List.mem_of_getElem? (i := 0) rfl)
theorem mW2208 : (Jvm.Cond.methodLink "CommandHouseModel" (178 : Nat) ({ cls := "CommandHouseModel", name := "passBlanks", desc := "()V" } : Jvm.MethodName)) ∈ wAll := memL25 _ (List.mem_of_getElem? (i := 1) rfl)
theorem mW2210 : (Jvm.Cond.instanceMethod ({ cls := "CommandHouseModel", name := "passBlanks", desc := "()V" } : Jvm.MethodName)) ∈ wAll := memL25 _ (List.mem_of_getElem? (i := 2) rfl)
theorem mW2207 : (Jvm.Cond.code ({ cls := "CommandHouseModel", name := "next", desc := "()V" } : Jvm.MethodName) prog_15_method_16_code (4 : Nat) (Option.none : Option Jvm.ClassFile.FieldType)) ∈ wAll := memL25 _ (List.mem_of_getElem? (i := 3) rfl)
theorem mW2204 : (Jvm.Cond.methodLink "CommandHouseModel" (206 : Nat) ({ cls := "CommandHouseModel", name := "next", desc := "()V" } : Jvm.MethodName)) ∈ wAll := memL25 _ (List.mem_of_getElem? (i := 4) rfl)
theorem mW2206 : (Jvm.Cond.instanceMethod ({ cls := "CommandHouseModel", name := "next", desc := "()V" } : Jvm.MethodName)) ∈ wAll := memL25 _ (List.mem_of_getElem? (i := 5) rfl)
theorem mW2203 : (Jvm.Cond.code ({ cls := "CommandHouseModel", name := "go", desc := "()V" } : Jvm.MethodName) prog_15_method_21_code (2 : Nat) (Option.none : Option Jvm.ClassFile.FieldType)) ∈ wAll := memL25 _ (List.mem_of_getElem? (i := 6) rfl)
theorem mW2200 : (Jvm.Cond.methodLink "CommandHouseModel" (224 : Nat) ({ cls := "CommandHouseModel", name := "go", desc := "()V" } : Jvm.MethodName)) ∈ wAll := memL25 _ (List.mem_of_getElem? (i := 7) rfl)
theorem mW2202 : (Jvm.Cond.instanceMethod ({ cls := "CommandHouseModel", name := "go", desc := "()V" } : Jvm.MethodName)) ∈ wAll := memL25 _ (List.mem_of_getElem? (i := 8) rfl)
theorem mW2590 : (Jvm.Cond.code ({ cls := "CommandHouseModel", name := "back", desc := "()V" } : Jvm.MethodName) prog_15_method_33_code (1 : Nat) (Option.none : Option Jvm.ClassFile.FieldType)) ∈ wAll := memL25 _ (List.mem_of_getElem? (i := 9) rfl)
theorem mW2587 : (Jvm.Cond.methodLink "CommandHouseModel" (274 : Nat) ({ cls := "CommandHouseModel", name := "back", desc := "()V" } : Jvm.MethodName)) ∈ wAll := memL25 _ (List.mem_of_getElem? (i := 10) rfl)
theorem mW2589 : (Jvm.Cond.instanceMethod ({ cls := "CommandHouseModel", name := "back", desc := "()V" } : Jvm.MethodName)) ∈ wAll := memL25 _ (List.mem_of_getElem? (i := 11) rfl)
theorem mW2598 : (Jvm.Cond.code ({ cls := "CommandHouseModel", name := "unkeep", desc := "()V" } : Jvm.MethodName) prog_15_method_34_code (1 : Nat) (Option.none : Option Jvm.ClassFile.FieldType)) ∈ wAll := memL25 _ (List.mem_of_getElem? (i := 12) rfl)
theorem mW2595 : (Jvm.Cond.methodLink "CommandHouseModel" (277 : Nat) ({ cls := "CommandHouseModel", name := "unkeep", desc := "()V" } : Jvm.MethodName)) ∈ wAll := memL25 _ (List.mem_of_getElem? (i := 13) rfl)
theorem mW2597 : (Jvm.Cond.instanceMethod ({ cls := "CommandHouseModel", name := "unkeep", desc := "()V" } : Jvm.MethodName)) ∈ wAll := memL25 _ (List.mem_of_getElem? (i := 14) rfl)
theorem mW2195 : (Jvm.Cond.code ({ cls := "CommandHouseModel", name := "runScript", desc := "(II)I" } : Jvm.MethodName) prog_15_method_103_code (10 : Nat) (Option.some Jvm.ClassFile.FieldType.int)) ∈ wAll := memL25 _ (List.mem_of_getElem? (i := 15) rfl)
theorem mW2192 : (Jvm.Cond.methodLink "CommandHouseModel" (672 : Nat) ({ cls := "CommandHouseModel", name := "runScript", desc := "(II)I" } : Jvm.MethodName)) ∈ wAll := memL25 _ (List.mem_of_getElem? (i := 16) rfl)
theorem mW2194 : (Jvm.Cond.instanceMethod ({ cls := "CommandHouseModel", name := "runScript", desc := "(II)I" } : Jvm.MethodName)) ∈ wAll := memL25 _ (List.mem_of_getElem? (i := 17) rfl)
theorem mW2170 : (Jvm.Cond.code ({ cls := "CommandHouseModel", name := "run", desc := "()I" } : Jvm.MethodName) prog_15_method_171_code (3 : Nat) (Option.some Jvm.ClassFile.FieldType.int)) ∈ wAll := memL25 _ (List.mem_of_getElem? (i := 18) rfl)
theorem mW2167 : (Jvm.Cond.methodLink "CommandHouseLaw" (31 : Nat) ({ cls := "CommandHouseModel", name := "run", desc := "()I" } : Jvm.MethodName)) ∈ wAll := memL25 _ (List.mem_of_getElem? (i := 19) rfl)
theorem mW2168 : (Jvm.Cond.instanceMethod ({ cls := "CommandHouseModel", name := "run", desc := "()I" } : Jvm.MethodName)) ∈ wAll := memL26 _ (List.mem_of_getElem? (i := 0) rfl)
theorem mW2169 : (Jvm.Cond.selects "CommandHouseModel" ({ cls := "CommandHouseModel", name := "run", desc := "()I" } : Jvm.MethodName) ({ cls := "CommandHouseModel", name := "run", desc := "()I" } : Jvm.MethodName)) ∈ wAll := memL26 _ (List.mem_of_getElem? (i := 1) rfl)
theorem mW119 : (Jvm.Cond.fieldLinkNest "CommandHouse" (86 : Nat) "CommandHouse$Book" "out" "LCommandHouse$Bytes;" "CommandHouse") ∈ wAll := memL26 _ (List.mem_of_getElem? (i := 2) rfl)
theorem mW1840 : (Jvm.Cond.code ({ cls := "CommandHouse", name := "size", desc := "()I" } : Jvm.MethodName) prog_1_method_6_code (1 : Nat) (Option.some Jvm.ClassFile.FieldType.int)) ∈ wAll := memL26 _ (List.mem_of_getElem? (i := 3) rfl)
theorem mW1837 : (Jvm.Cond.methodLink "CommandHouseLaw" (32 : Nat) ({ cls := "CommandHouse", name := "size", desc := "()I" } : Jvm.MethodName)) ∈ wAll := memL26 _ (List.mem_of_getElem? (i := 4) rfl)
theorem mW1838 : (Jvm.Cond.instanceMethod ({ cls := "CommandHouse", name := "size", desc := "()I" } : Jvm.MethodName)) ∈ wAll := memL26 _ (List.mem_of_getElem? (i := 5) rfl)
theorem mW1839 : (Jvm.Cond.selects "CommandHouse" ({ cls := "CommandHouse", name := "size", desc := "()I" } : Jvm.MethodName) ({ cls := "CommandHouse", name := "size", desc := "()I" } : Jvm.MethodName)) ∈ wAll := memL26 _ (List.mem_of_getElem? (i := 6) rfl)
theorem mW2838 : (Jvm.Cond.code ({ cls := "CommandHouseModel", name := "size", desc := "()I" } : Jvm.MethodName) prog_15_method_172_code (1 : Nat) (Option.some Jvm.ClassFile.FieldType.int)) ∈ wAll := memL26 _ (List.mem_of_getElem? (i := 7) rfl)
theorem mW2835 : (Jvm.Cond.methodLink "CommandHouseLaw" (35 : Nat) ({ cls := "CommandHouseModel", name := "size", desc := "()I" } : Jvm.MethodName)) ∈ wAll := memL26 _ (List.mem_of_getElem? (i := 8) rfl)
theorem mW2836 : (Jvm.Cond.instanceMethod ({ cls := "CommandHouseModel", name := "size", desc := "()I" } : Jvm.MethodName)) ∈ wAll := memL26 _ (List.mem_of_getElem? (i := 9) rfl)
theorem mW2837 : (Jvm.Cond.selects "CommandHouseModel" ({ cls := "CommandHouseModel", name := "size", desc := "()I" } : Jvm.MethodName) ({ cls := "CommandHouseModel", name := "size", desc := "()I" } : Jvm.MethodName)) ∈ wAll := memL26 _ (List.mem_of_getElem? (i := 10) rfl)
theorem mW1033 : (Jvm.Cond.code ({ cls := "CommandHouse$Bytes", name := "at", desc := "(I)I" } : Jvm.MethodName) prog_5_method_3_code (2 : Nat) (Option.some Jvm.ClassFile.FieldType.int)) ∈ wAll := memL26 _ (List.mem_of_getElem? (i := 11) rfl)
theorem mW1845 : (Jvm.Cond.methodLinkNest "CommandHouse" (89 : Nat) ({ cls := "CommandHouse$Bytes", name := "at", desc := "(I)I" } : Jvm.MethodName) "CommandHouse") ∈ wAll := memL26 _ (List.mem_of_getElem? (i := 12) rfl)
theorem mW1032 : (Jvm.Cond.instanceMethod ({ cls := "CommandHouse$Bytes", name := "at", desc := "(I)I" } : Jvm.MethodName)) ∈ wAll := memL26 _ (List.mem_of_getElem? (i := 13) rfl)
theorem mW1844 : (Jvm.Cond.code ({ cls := "CommandHouse", name := "out", desc := "(I)I" } : Jvm.MethodName) prog_1_method_7_code (2 : Nat) (Option.some Jvm.ClassFile.FieldType.int)) ∈ wAll := memL26 _ (List.mem_of_getElem? (i := 14) rfl)
theorem mW1841 : (Jvm.Cond.methodLink "CommandHouseLaw" (36 : Nat) ({ cls := "CommandHouse", name := "out", desc := "(I)I" } : Jvm.MethodName)) ∈ wAll := memL26 _ (List.mem_of_getElem? (i := 15) rfl)
theorem mW1842 : (Jvm.Cond.instanceMethod ({ cls := "CommandHouse", name := "out", desc := "(I)I" } : Jvm.MethodName)) ∈ wAll := memL26 _ (List.mem_of_getElem? (i := 16) rfl)
theorem mW1843 : (Jvm.Cond.selects "CommandHouse" ({ cls := "CommandHouse", name := "out", desc := "(I)I" } : Jvm.MethodName) ({ cls := "CommandHouse", name := "out", desc := "(I)I" } : Jvm.MethodName)) ∈ wAll := memL26 _ (List.mem_of_getElem? (i := 17) rfl)
theorem mW2842 : (Jvm.Cond.code ({ cls := "CommandHouseModel", name := "out", desc := "(I)I" } : Jvm.MethodName) prog_15_method_173_code (2 : Nat) (Option.some Jvm.ClassFile.FieldType.int)) ∈ wAll := memL26 _ (List.mem_of_getElem? (i := 18) rfl)
theorem mW2839 : (Jvm.Cond.methodLink "CommandHouseLaw" (39 : Nat) ({ cls := "CommandHouseModel", name := "out", desc := "(I)I" } : Jvm.MethodName)) ∈ wAll := memL26 _ (List.mem_of_getElem? (i := 19) rfl)
theorem mW2840 : (Jvm.Cond.instanceMethod ({ cls := "CommandHouseModel", name := "out", desc := "(I)I" } : Jvm.MethodName)) ∈ wAll := memL27 _ (List.mem_of_getElem? (i := 0) rfl)
theorem mW2841 : (Jvm.Cond.selects "CommandHouseModel" ({ cls := "CommandHouseModel", name := "out", desc := "(I)I" } : Jvm.MethodName) ({ cls := "CommandHouseModel", name := "out", desc := "(I)I" } : Jvm.MethodName)) ∈ wAll := memL27 _ (List.mem_of_getElem? (i := 1) rfl)
theorem mW112 : (Jvm.Cond.fieldLinkNest "CommandHouse" (93 : Nat) "CommandHouse$Book" "told" "I" "CommandHouse") ∈ wAll := memL27 _ (List.mem_of_getElem? (i := 2) rfl)
theorem mW1849 : (Jvm.Cond.code ({ cls := "CommandHouse", name := "diagnostic", desc := "(I)I" } : Jvm.MethodName) prog_1_method_8_code (2 : Nat) (Option.some Jvm.ClassFile.FieldType.int)) ∈ wAll := memL27 _ (List.mem_of_getElem? (i := 3) rfl)
theorem mW1846 : (Jvm.Cond.methodLink "CommandHouseLaw" (40 : Nat) ({ cls := "CommandHouse", name := "diagnostic", desc := "(I)I" } : Jvm.MethodName)) ∈ wAll := memL27 _ (List.mem_of_getElem? (i := 4) rfl)
theorem mW1847 : (Jvm.Cond.instanceMethod ({ cls := "CommandHouse", name := "diagnostic", desc := "(I)I" } : Jvm.MethodName)) ∈ wAll := memL27 _ (List.mem_of_getElem? (i := 5) rfl)
theorem mW1848 : (Jvm.Cond.selects "CommandHouse" ({ cls := "CommandHouse", name := "diagnostic", desc := "(I)I" } : Jvm.MethodName) ({ cls := "CommandHouse", name := "diagnostic", desc := "(I)I" } : Jvm.MethodName)) ∈ wAll := memL27 _ (List.mem_of_getElem? (i := 6) rfl)
theorem mW2846 : (Jvm.Cond.code ({ cls := "CommandHouseModel", name := "diagnostic", desc := "(I)I" } : Jvm.MethodName) prog_15_method_174_code (2 : Nat) (Option.some Jvm.ClassFile.FieldType.int)) ∈ wAll := memL27 _ (List.mem_of_getElem? (i := 7) rfl)
theorem mW2843 : (Jvm.Cond.methodLink "CommandHouseLaw" (43 : Nat) ({ cls := "CommandHouseModel", name := "diagnostic", desc := "(I)I" } : Jvm.MethodName)) ∈ wAll := memL27 _ (List.mem_of_getElem? (i := 8) rfl)
theorem mW2844 : (Jvm.Cond.instanceMethod ({ cls := "CommandHouseModel", name := "diagnostic", desc := "(I)I" } : Jvm.MethodName)) ∈ wAll := memL27 _ (List.mem_of_getElem? (i := 9) rfl)
theorem mW2845 : (Jvm.Cond.selects "CommandHouseModel" ({ cls := "CommandHouseModel", name := "diagnostic", desc := "(I)I" } : Jvm.MethodName) ({ cls := "CommandHouseModel", name := "diagnostic", desc := "(I)I" } : Jvm.MethodName)) ∈ wAll := memL27 _ (List.mem_of_getElem? (i := 10) rfl)
theorem mW596 : (Jvm.Cond.fieldLinkNest "CommandHouse" (100 : Nat) "CommandHouse$Machine" "wrongPlace" "I" "CommandHouse") ∈ wAll := memL27 _ (List.mem_of_getElem? (i := 11) rfl)
theorem mW1853 : (Jvm.Cond.code ({ cls := "CommandHouse", name := "wrong", desc := "()I" } : Jvm.MethodName) prog_1_method_9_code (1 : Nat) (Option.some Jvm.ClassFile.FieldType.int)) ∈ wAll := memL27 _ (List.mem_of_getElem? (i := 12) rfl)
theorem mW1850 : (Jvm.Cond.methodLink "CommandHouseLaw" (44 : Nat) ({ cls := "CommandHouse", name := "wrong", desc := "()I" } : Jvm.MethodName)) ∈ wAll := memL27 _ (List.mem_of_getElem? (i := 13) rfl)
theorem mW1851 : (Jvm.Cond.instanceMethod ({ cls := "CommandHouse", name := "wrong", desc := "()I" } : Jvm.MethodName)) ∈ wAll := memL27 _ (List.mem_of_getElem? (i := 14) rfl)
theorem mW1852 : (Jvm.Cond.selects "CommandHouse" ({ cls := "CommandHouse", name := "wrong", desc := "()I" } : Jvm.MethodName) ({ cls := "CommandHouse", name := "wrong", desc := "()I" } : Jvm.MethodName)) ∈ wAll := memL27 _ (List.mem_of_getElem? (i := 15) rfl)
theorem mW2850 : (Jvm.Cond.code ({ cls := "CommandHouseModel", name := "wrong", desc := "()I" } : Jvm.MethodName) prog_15_method_175_code (1 : Nat) (Option.some Jvm.ClassFile.FieldType.int)) ∈ wAll := memL27 _ (List.mem_of_getElem? (i := 16) rfl)
theorem mW2847 : (Jvm.Cond.methodLink "CommandHouseLaw" (47 : Nat) ({ cls := "CommandHouseModel", name := "wrong", desc := "()I" } : Jvm.MethodName)) ∈ wAll := memL27 _ (List.mem_of_getElem? (i := 17) rfl)
theorem mW2848 : (Jvm.Cond.instanceMethod ({ cls := "CommandHouseModel", name := "wrong", desc := "()I" } : Jvm.MethodName)) ∈ wAll := memL27 _ (List.mem_of_getElem? (i := 18) rfl)
theorem mW2849 : (Jvm.Cond.selects "CommandHouseModel" ({ cls := "CommandHouseModel", name := "wrong", desc := "()I" } : Jvm.MethodName) ({ cls := "CommandHouseModel", name := "wrong", desc := "()I" } : Jvm.MethodName)) ∈ wAll := memL27 _ (List.mem_of_getElem? (i := 19) rfl)
theorem mW98 : (Jvm.Cond.fieldLinkNest "CommandHouse" (103 : Nat) "CommandHouse$Book" "work" "I" "CommandHouse") ∈ wAll := memL28 _ (List.mem_of_getElem? (i := 0) rfl)
theorem mW105 : (Jvm.Cond.fieldLinkNest "CommandHouse" (106 : Nat) "CommandHouse$Book" "ran" "I" "CommandHouse") ∈ wAll := memL28 _ (List.mem_of_getElem? (i := 1) rfl)
theorem mW115 : (Jvm.Cond.fieldLinkNest "CommandHouse" (109 : Nat) "CommandHouse$Book" "shelved" "I" "CommandHouse") ∈ wAll := memL28 _ (List.mem_of_getElem? (i := 2) rfl)
theorem mW114 : (Jvm.Cond.fieldLink "CommandHouse$Book" (78 : Nat) "CommandHouse$Book" "shelved" "I") ∈ wAll := memL28 _ (List.mem_of_getElem? (i := 3) rfl)
theorem mW1861 : (Jvm.Cond.code ({ cls := "CommandHouse$Book", name := "fileBytes", desc := "()I" } : Jvm.MethodName) prog_2_method_10_code (3 : Nat) (Option.some Jvm.ClassFile.FieldType.int)) ∈ wAll := memL28 _ (List.mem_of_getElem? (i := 4) rfl)
theorem mW1858 : (Jvm.Cond.methodLinkNest "CommandHouse" (112 : Nat) ({ cls := "CommandHouse$Book", name := "fileBytes", desc := "()I" } : Jvm.MethodName) "CommandHouse") ∈ wAll := memL28 _ (List.mem_of_getElem? (i := 5) rfl)
theorem mW1860 : (Jvm.Cond.instanceMethod ({ cls := "CommandHouse$Book", name := "fileBytes", desc := "()I" } : Jvm.MethodName)) ∈ wAll := memL28 _ (List.mem_of_getElem? (i := 6) rfl)
theorem mW1857 : (Jvm.Cond.code ({ cls := "CommandHouse", name := "count", desc := "(I)I" } : Jvm.MethodName) prog_1_method_10_code (2 : Nat) (Option.some Jvm.ClassFile.FieldType.int)) ∈ wAll := memL28 _ (List.mem_of_getElem? (i := 7) rfl)
theorem mW1854 : (Jvm.Cond.methodLink "CommandHouseLaw" (48 : Nat) ({ cls := "CommandHouse", name := "count", desc := "(I)I" } : Jvm.MethodName)) ∈ wAll := memL28 _ (List.mem_of_getElem? (i := 8) rfl)
theorem mW1855 : (Jvm.Cond.instanceMethod ({ cls := "CommandHouse", name := "count", desc := "(I)I" } : Jvm.MethodName)) ∈ wAll := memL28 _ (List.mem_of_getElem? (i := 9) rfl)
theorem mW1856 : (Jvm.Cond.selects "CommandHouse" ({ cls := "CommandHouse", name := "count", desc := "(I)I" } : Jvm.MethodName) ({ cls := "CommandHouse", name := "count", desc := "(I)I" } : Jvm.MethodName)) ∈ wAll := memL28 _ (List.mem_of_getElem? (i := 10) rfl)
theorem mW1922 : (Jvm.Cond.fieldLink "CommandHouseModel" (505 : Nat) "CommandHouseModel" "files" "I") ∈ wAll := memL28 _ (List.mem_of_getElem? (i := 11) rfl)
theorem mW2854 : (Jvm.Cond.code ({ cls := "CommandHouseModel", name := "count", desc := "(I)I" } : Jvm.MethodName) prog_15_method_176_code (4 : Nat) (Option.some Jvm.ClassFile.FieldType.int)) ∈ wAll := memL28 _ (List.mem_of_getElem? (i := 12) rfl)
theorem mW2851 : (Jvm.Cond.methodLink "CommandHouseLaw" (51 : Nat) ({ cls := "CommandHouseModel", name := "count", desc := "(I)I" } : Jvm.MethodName)) ∈ wAll := memL28 _ (List.mem_of_getElem? (i := 13) rfl)
theorem mW2852 : (Jvm.Cond.instanceMethod ({ cls := "CommandHouseModel", name := "count", desc := "(I)I" } : Jvm.MethodName)) ∈ wAll := memL28 _ (List.mem_of_getElem? (i := 14) rfl)
theorem mW2853 : (Jvm.Cond.selects "CommandHouseModel" ({ cls := "CommandHouseModel", name := "count", desc := "(I)I" } : Jvm.MethodName) ({ cls := "CommandHouseModel", name := "count", desc := "(I)I" } : Jvm.MethodName)) ∈ wAll := memL28 _ (List.mem_of_getElem? (i := 15) rfl)
theorem mW1291 : (Jvm.Cond.code ({ cls := "CommandHouse$Book", name := "fileAt", desc := "(I)LCommandHouse$Bytes;" } : Jvm.MethodName) prog_2_method_9_code (2 : Nat) (Option.some (Jvm.ClassFile.FieldType.object "CommandHouse$Bytes"))) ∈ wAll := memL28 _ (List.mem_of_getElem? (i := 16) rfl)
theorem mW1866 : (Jvm.Cond.methodLinkNest "CommandHouse" (116 : Nat) ({ cls := "CommandHouse$Book", name := "fileAt", desc := "(I)LCommandHouse$Bytes;" } : Jvm.MethodName) "CommandHouse") ∈ wAll := memL28 _ (List.mem_of_getElem? (i := 17) rfl)
theorem mW1290 : (Jvm.Cond.instanceMethod ({ cls := "CommandHouse$Book", name := "fileAt", desc := "(I)LCommandHouse$Bytes;" } : Jvm.MethodName)) ∈ wAll := memL28 _ (List.mem_of_getElem? (i := 18) rfl)
theorem mW1865 : (Jvm.Cond.code ({ cls := "CommandHouse", name := "file", desc := "(I)I" } : Jvm.MethodName) prog_1_method_11_code (3 : Nat) (Option.some Jvm.ClassFile.FieldType.int)) ∈ wAll := memL28 _ (List.mem_of_getElem? (i := 19) rfl)
theorem mW1862 : (Jvm.Cond.methodLink "CommandHouseLaw" (52 : Nat) ({ cls := "CommandHouse", name := "file", desc := "(I)I" } : Jvm.MethodName)) ∈ wAll := memL29 _ (List.mem_of_getElem? (i := 0) rfl)
theorem mW1863 : (Jvm.Cond.instanceMethod ({ cls := "CommandHouse", name := "file", desc := "(I)I" } : Jvm.MethodName)) ∈ wAll := memL29 _ (List.mem_of_getElem? (i := 1) rfl)
theorem mW1864 : (Jvm.Cond.selects "CommandHouse" ({ cls := "CommandHouse", name := "file", desc := "(I)I" } : Jvm.MethodName) ({ cls := "CommandHouse", name := "file", desc := "(I)I" } : Jvm.MethodName)) ∈ wAll := memL29 _ (List.mem_of_getElem? (i := 2) rfl)
theorem mW2574 : (Jvm.Cond.code ({ cls := "CommandHouseModel", name := "ranked", desc := "(I)I" } : Jvm.MethodName) prog_15_method_75_code (5 : Nat) (Option.some Jvm.ClassFile.FieldType.int)) ∈ wAll := memL29 _ (List.mem_of_getElem? (i := 3) rfl)
theorem mW2571 : (Jvm.Cond.methodLink "CommandHouseModel" (782 : Nat) ({ cls := "CommandHouseModel", name := "ranked", desc := "(I)I" } : Jvm.MethodName)) ∈ wAll := memL29 _ (List.mem_of_getElem? (i := 4) rfl)
theorem mW2573 : (Jvm.Cond.instanceMethod ({ cls := "CommandHouseModel", name := "ranked", desc := "(I)I" } : Jvm.MethodName)) ∈ wAll := memL29 _ (List.mem_of_getElem? (i := 5) rfl)
theorem mW2858 : (Jvm.Cond.code ({ cls := "CommandHouseModel", name := "file", desc := "(I)I" } : Jvm.MethodName) prog_15_method_177_code (3 : Nat) (Option.some Jvm.ClassFile.FieldType.int)) ∈ wAll := memL29 _ (List.mem_of_getElem? (i := 6) rfl)
theorem mW2855 : (Jvm.Cond.methodLink "CommandHouseLaw" (55 : Nat) ({ cls := "CommandHouseModel", name := "file", desc := "(I)I" } : Jvm.MethodName)) ∈ wAll := memL29 _ (List.mem_of_getElem? (i := 7) rfl)
theorem mW2856 : (Jvm.Cond.instanceMethod ({ cls := "CommandHouseModel", name := "file", desc := "(I)I" } : Jvm.MethodName)) ∈ wAll := memL29 _ (List.mem_of_getElem? (i := 8) rfl)
theorem mW2857 : (Jvm.Cond.selects "CommandHouseModel" ({ cls := "CommandHouseModel", name := "file", desc := "(I)I" } : Jvm.MethodName) ({ cls := "CommandHouseModel", name := "file", desc := "(I)I" } : Jvm.MethodName)) ∈ wAll := memL29 _ (List.mem_of_getElem? (i := 9) rfl)
theorem mW1870 : (Jvm.Cond.code ({ cls := "CommandHouse", name := "byteOf", desc := "(IZI)I" } : Jvm.MethodName) prog_1_method_12_code (6 : Nat) (Option.some Jvm.ClassFile.FieldType.int)) ∈ wAll := memL29 _ (List.mem_of_getElem? (i := 10) rfl)
theorem mW1867 : (Jvm.Cond.methodLink "CommandHouseLaw" (56 : Nat) ({ cls := "CommandHouse", name := "byteOf", desc := "(IZI)I" } : Jvm.MethodName)) ∈ wAll := memL29 _ (List.mem_of_getElem? (i := 11) rfl)
theorem mW1868 : (Jvm.Cond.instanceMethod ({ cls := "CommandHouse", name := "byteOf", desc := "(IZI)I" } : Jvm.MethodName)) ∈ wAll := memL29 _ (List.mem_of_getElem? (i := 12) rfl)
theorem mW1869 : (Jvm.Cond.selects "CommandHouse" ({ cls := "CommandHouse", name := "byteOf", desc := "(IZI)I" } : Jvm.MethodName) ({ cls := "CommandHouse", name := "byteOf", desc := "(IZI)I" } : Jvm.MethodName)) ∈ wAll := memL29 _ (List.mem_of_getElem? (i := 13) rfl)
theorem mW2862 : (Jvm.Cond.code ({ cls := "CommandHouseModel", name := "byteOf", desc := "(IZI)I" } : Jvm.MethodName) prog_15_method_178_code (5 : Nat) (Option.some Jvm.ClassFile.FieldType.int)) ∈ wAll := memL29 _ (List.mem_of_getElem? (i := 14) rfl)
theorem mW2859 : (Jvm.Cond.methodLink "CommandHouseLaw" (60 : Nat) ({ cls := "CommandHouseModel", name := "byteOf", desc := "(IZI)I" } : Jvm.MethodName)) ∈ wAll := memL29 _ (List.mem_of_getElem? (i := 15) rfl)
theorem mW2860 : (Jvm.Cond.instanceMethod ({ cls := "CommandHouseModel", name := "byteOf", desc := "(IZI)I" } : Jvm.MethodName)) ∈ wAll := memL29 _ (List.mem_of_getElem? (i := 16) rfl)
theorem mW2861 : (Jvm.Cond.selects "CommandHouseModel" ({ cls := "CommandHouseModel", name := "byteOf", desc := "(IZI)I" } : Jvm.MethodName) ({ cls := "CommandHouseModel", name := "byteOf", desc := "(IZI)I" } : Jvm.MethodName)) ∈ wAll := memL29 _ (List.mem_of_getElem? (i := 17) rfl)
theorem mW761 : (Jvm.Cond.instantiable "CommandHouse$Builder" (20 : Nat)) ∈ wAll := memL29 _ (List.mem_of_getElem? (i := 18) rfl)
theorem mS0 : Cond.selects "CommandHouse$Input" ⟨"CommandHouse$Input", "begin", "(LCommandHouse$Bytes;)V"⟩ ⟨"CommandHouse$Input", "begin", "(LCommandHouse$Bytes;)V"⟩ ∈ wAll := List.mem_append_right _ (List.mem_append_right _ (List.mem_of_getElem? (i := 0) rfl))
theorem mS1 : Cond.selects "java/util/ArrayList" ⟨"java/util/ArrayList", "grow", "(I)[Ljava/lang/Object;"⟩ ⟨"java/util/ArrayList", "grow", "(I)[Ljava/lang/Object;"⟩ ∈ wAll := List.mem_append_right _ (List.mem_append_right _ (List.mem_of_getElem? (i := 1) rfl))
theorem mS2 : Cond.selects "java/util/ArrayList" ⟨"java/util/ArrayList", "grow", "()[Ljava/lang/Object;"⟩ ⟨"java/util/ArrayList", "grow", "()[Ljava/lang/Object;"⟩ ∈ wAll := List.mem_append_right _ (List.mem_append_right _ (List.mem_of_getElem? (i := 2) rfl))
theorem mS3 : Cond.selects "java/util/ArrayList" ⟨"java/util/ArrayList", "add", "(Ljava/lang/Object;[Ljava/lang/Object;I)V"⟩ ⟨"java/util/ArrayList", "add", "(Ljava/lang/Object;[Ljava/lang/Object;I)V"⟩ ∈ wAll := List.mem_append_right _ (List.mem_append_right _ (List.mem_of_getElem? (i := 3) rfl))
theorem mS4 : Cond.selects "CommandHouse" ⟨"CommandHouse", "lay", "(I)V"⟩ ⟨"CommandHouse", "lay", "(I)V"⟩ ∈ wAll := List.mem_append_right _ (List.mem_append_right _ (List.mem_of_getElem? (i := 4) rfl))
theorem mS5 : Cond.selects "CommandHouse$Book" ⟨"CommandHouse$Book", "begin", "()V"⟩ ⟨"CommandHouse$Book", "begin", "()V"⟩ ∈ wAll := List.mem_append_right _ (List.mem_append_right _ (List.mem_of_getElem? (i := 5) rfl))
theorem mS6 : Cond.selects "CommandHouse$Words" ⟨"CommandHouse$Words", "begin", "()V"⟩ ⟨"CommandHouse$Words", "begin", "()V"⟩ ∈ wAll := List.mem_append_right _ (List.mem_append_right _ (List.mem_of_getElem? (i := 6) rfl))
theorem mS7 : Cond.selects "CommandHouse$State" ⟨"CommandHouse$State", "setParameters", "([LCommandHouse$Bytes;I)V"⟩ ⟨"CommandHouse$State", "setParameters", "([LCommandHouse$Bytes;I)V"⟩ ∈ wAll := List.mem_append_right _ (List.mem_append_right _ (List.mem_of_getElem? (i := 7) rfl))
theorem mS8 : Cond.selects "CommandHouse$State" ⟨"CommandHouse$State", "clear", "([LCommandHouse$Bytes;)V"⟩ ⟨"CommandHouse$State", "clear", "([LCommandHouse$Bytes;)V"⟩ ∈ wAll := List.mem_append_right _ (List.mem_append_right _ (List.mem_of_getElem? (i := 8) rfl))
theorem mS9 : Cond.selects "CommandHouse$Machine" ⟨"CommandHouse$Machine", "push", "(I)LCommandHouse$Frame;"⟩ ⟨"CommandHouse$Machine", "push", "(I)LCommandHouse$Frame;"⟩ ∈ wAll := List.mem_append_right _ (List.mem_append_right _ (List.mem_of_getElem? (i := 9) rfl))
theorem mS10 : Cond.selects "CommandHouse$Book" ⟨"CommandHouse$Book", "spend", "(I)Z"⟩ ⟨"CommandHouse$Book", "spend", "(I)Z"⟩ ∈ wAll := List.mem_append_right _ (List.mem_append_right _ (List.mem_of_getElem? (i := 10) rfl))
theorem mS11 : Cond.selects "CommandHouse$Machine" ⟨"CommandHouse$Machine", "begin", "(LCommandHouse$Bytes;LCommandHouse$Input;)V"⟩ ⟨"CommandHouse$Machine", "begin", "(LCommandHouse$Bytes;LCommandHouse$Input;)V"⟩ ∈ wAll := List.mem_append_right _ (List.mem_append_right _ (List.mem_of_getElem? (i := 11) rfl))
theorem mS12 : Cond.selects "CommandHouse$Script" ⟨"CommandHouse$Script", "codeAt", "(I)I"⟩ ⟨"CommandHouse$Script", "codeAt", "(I)I"⟩ ∈ wAll := List.mem_append_right _ (List.mem_append_right _ (List.mem_of_getElem? (i := 12) rfl))
theorem mS13 : Cond.selects "CommandHouse$Script" ⟨"CommandHouse$Script", "isWrong", "()Z"⟩ ⟨"CommandHouse$Script", "isWrong", "()Z"⟩ ∈ wAll := List.mem_append_right _ (List.mem_append_right _ (List.mem_of_getElem? (i := 13) rfl))
theorem mS14 : Cond.selects "CommandHouse$Script" ⟨"CommandHouse$Script", "at", "(I)I"⟩ ⟨"CommandHouse$Script", "at", "(I)I"⟩ ∈ wAll := List.mem_append_right _ (List.mem_append_right _ (List.mem_of_getElem? (i := 14) rfl))
theorem mS15 : Cond.selects "CommandHouse$Script" ⟨"CommandHouse$Script", "passBlanks", "()V"⟩ ⟨"CommandHouse$Script", "passBlanks", "()V"⟩ ∈ wAll := List.mem_append_right _ (List.mem_append_right _ (List.mem_of_getElem? (i := 15) rfl))
theorem mS16 : Cond.selects "CommandHouse$Script" ⟨"CommandHouse$Script", "takeTexts", "()V"⟩ ⟨"CommandHouse$Script", "takeTexts", "()V"⟩ ∈ wAll := List.mem_append_right _ (List.mem_append_right _ (List.mem_of_getElem? (i := 16) rfl))
theorem mS17 : Cond.selects "CommandHouse$Script" ⟨"CommandHouse$Script", "advance", "()V"⟩ ⟨"CommandHouse$Script", "advance", "()V"⟩ ∈ wAll := List.mem_append_right _ (List.mem_append_right _ (List.mem_of_getElem? (i := 17) rfl))
theorem mS18 : Cond.selects "CommandHouse$Script" ⟨"CommandHouse$Script", "skipLines", "()V"⟩ ⟨"CommandHouse$Script", "skipLines", "()V"⟩ ∈ wAll := List.mem_append_right _ (List.mem_append_right _ (List.mem_of_getElem? (i := 18) rfl))
theorem mS19 : Cond.selects "CommandHouse$Script" ⟨"CommandHouse$Script", "next", "()I"⟩ ⟨"CommandHouse$Script", "next", "()I"⟩ ∈ wAll := List.mem_append_right _ (List.mem_append_right _ (List.mem_of_getElem? (i := 19) rfl))
theorem mS20 : Cond.selects "CommandHouse$Machine" ⟨"CommandHouse$Machine", "frameAt", "(I)LCommandHouse$Frame;"⟩ ⟨"CommandHouse$Machine", "frameAt", "(I)LCommandHouse$Frame;"⟩ ∈ wAll := List.mem_append_right _ (List.mem_append_right _ (List.mem_of_getElem? (i := 20) rfl))
theorem mS21 : Cond.selects "CommandHouse$Machine" ⟨"CommandHouse$Machine", "top", "()LCommandHouse$Frame;"⟩ ⟨"CommandHouse$Machine", "top", "()LCommandHouse$Frame;"⟩ ∈ wAll := List.mem_append_right _ (List.mem_append_right _ (List.mem_of_getElem? (i := 21) rfl))
theorem mS22 : Cond.selects "CommandHouse$Machine" ⟨"CommandHouse$Machine", "comeBack", "(LCommandHouse$Frame;)V"⟩ ⟨"CommandHouse$Machine", "comeBack", "(LCommandHouse$Frame;)V"⟩ ∈ wAll := List.mem_append_right _ (List.mem_append_right _ (List.mem_of_getElem? (i := 22) rfl))
theorem mS23 : Cond.selects "CommandHouse$Machine" ⟨"CommandHouse$Machine", "pop", "()V"⟩ ⟨"CommandHouse$Machine", "pop", "()V"⟩ ∈ wAll := List.mem_append_right _ (List.mem_append_right _ (List.mem_of_getElem? (i := 23) rfl))
theorem mS24 : Cond.selects "CommandHouse$Machine" ⟨"CommandHouse$Machine", "proceed", "()V"⟩ ⟨"CommandHouse$Machine", "proceed", "()V"⟩ ∈ wAll := List.mem_append_right _ (List.mem_append_right _ (List.mem_of_getElem? (i := 24) rfl))
theorem mS25 : Cond.selects "CommandHouse$Machine" ⟨"CommandHouse$Machine", "step", "(LCommandHouse$Script;I)V"⟩ ⟨"CommandHouse$Machine", "step", "(LCommandHouse$Script;I)V"⟩ ∈ wAll := List.mem_append_right _ (List.mem_append_right _ (List.mem_of_getElem? (i := 25) rfl))
theorem mS26 : Cond.selects "CommandHouse$Machine" ⟨"CommandHouse$Machine", "execute", "(I)V"⟩ ⟨"CommandHouse$Machine", "execute", "(I)V"⟩ ∈ wAll := List.mem_append_right _ (List.mem_append_right _ (List.mem_of_getElem? (i := 26) rfl))
theorem mS27 : Cond.selects "CommandHouseModel" ⟨"CommandHouseModel", "newInput", "(III)I"⟩ ⟨"CommandHouseModel", "newInput", "(III)I"⟩ ∈ wAll := List.mem_append_right _ (List.mem_append_right _ (List.mem_of_getElem? (i := 27) rfl))
theorem mS28 : Cond.selects "CommandHouseModel" ⟨"CommandHouseModel", "addWork", "(I)Z"⟩ ⟨"CommandHouseModel", "addWork", "(I)Z"⟩ ∈ wAll := List.mem_append_right _ (List.mem_append_right _ (List.mem_of_getElem? (i := 28) rfl))
theorem mS29 : Cond.selects "CommandHouseModel" ⟨"CommandHouseModel", "begun", "([III)I"⟩ ⟨"CommandHouseModel", "begun", "([III)I"⟩ ∈ wAll := List.mem_append_right _ (List.mem_append_right _ (List.mem_of_getElem? (i := 29) rfl))
theorem mS30 : Cond.selects "CommandHouseModel" ⟨"CommandHouseModel", "keep", "()V"⟩ ⟨"CommandHouseModel", "keep", "()V"⟩ ∈ wAll := List.mem_append_right _ (List.mem_append_right _ (List.mem_of_getElem? (i := 30) rfl))
theorem mS31 : Cond.selects "CommandHouseModel" ⟨"CommandHouseModel", "byteAt", "(I)I"⟩ ⟨"CommandHouseModel", "byteAt", "(I)I"⟩ ∈ wAll := List.mem_append_right _ (List.mem_append_right _ (List.mem_of_getElem? (i := 31) rfl))
theorem mS32 : Cond.selects "CommandHouseModel" ⟨"CommandHouseModel", "passBlanks", "()V"⟩ ⟨"CommandHouseModel", "passBlanks", "()V"⟩ ∈ wAll := List.mem_append_right _ (List.mem_append_right _ (List.mem_of_getElem? (i := 32) rfl))
theorem mS33 : Cond.selects "CommandHouseModel" ⟨"CommandHouseModel", "next", "()V"⟩ ⟨"CommandHouseModel", "next", "()V"⟩ ∈ wAll := List.mem_append_right _ (List.mem_append_right _ (List.mem_of_getElem? (i := 33) rfl))
theorem mS34 : Cond.selects "CommandHouseModel" ⟨"CommandHouseModel", "go", "()V"⟩ ⟨"CommandHouseModel", "go", "()V"⟩ ∈ wAll := List.mem_append_right _ (List.mem_append_right _ (List.mem_of_getElem? (i := 34) rfl))
theorem mS35 : Cond.selects "CommandHouseModel" ⟨"CommandHouseModel", "back", "()V"⟩ ⟨"CommandHouseModel", "back", "()V"⟩ ∈ wAll := List.mem_append_right _ (List.mem_append_right _ (List.mem_of_getElem? (i := 35) rfl))
theorem mS36 : Cond.selects "CommandHouseModel" ⟨"CommandHouseModel", "unkeep", "()V"⟩ ⟨"CommandHouseModel", "unkeep", "()V"⟩ ∈ wAll := List.mem_append_right _ (List.mem_append_right _ (List.mem_of_getElem? (i := 36) rfl))
theorem mS37 : Cond.selects "CommandHouseModel" ⟨"CommandHouseModel", "runScript", "(II)I"⟩ ⟨"CommandHouseModel", "runScript", "(II)I"⟩ ∈ wAll := List.mem_append_right _ (List.mem_append_right _ (List.mem_of_getElem? (i := 37) rfl))
theorem mS38 : Cond.selects "CommandHouse$Bytes" ⟨"CommandHouse$Bytes", "at", "(I)I"⟩ ⟨"CommandHouse$Bytes", "at", "(I)I"⟩ ∈ wAll := List.mem_append_right _ (List.mem_append_right _ (List.mem_of_getElem? (i := 38) rfl))
theorem mS39 : Cond.selects "CommandHouse$Book" ⟨"CommandHouse$Book", "fileBytes", "()I"⟩ ⟨"CommandHouse$Book", "fileBytes", "()I"⟩ ∈ wAll := List.mem_append_right _ (List.mem_append_right _ (List.mem_of_getElem? (i := 39) rfl))
theorem mS40 : Cond.selects "CommandHouse$Book" ⟨"CommandHouse$Book", "fileAt", "(I)LCommandHouse$Bytes;"⟩ ⟨"CommandHouse$Book", "fileAt", "(I)LCommandHouse$Bytes;"⟩ ∈ wAll := List.mem_append_right _ (List.mem_append_right _ (List.mem_of_getElem? (i := 40) rfl))
theorem mS41 : Cond.selects "CommandHouseModel" ⟨"CommandHouseModel", "ranked", "(I)I"⟩ ⟨"CommandHouseModel", "ranked", "(I)I"⟩ ∈ wAll := List.mem_append_right _ (List.mem_append_right _ (List.mem_of_getElem? (i := 41) rfl))
theorem inJx4a65c : ∀ w ∈ u_ws RJx4a65c TJx4a65c 3, w ∈ wAll := fun w h => List.mem_append_left _ (List.mem_append_left _ h)
theorem inX0 : ∀ w ∈ u_ws RX0 TX0 11, w ∈ wAll := fun w h => List.mem_append_left _ (List.mem_append_right _ (List.mem_append_left _ h))
theorem inX1 : ∀ w ∈ u_ws RX1 TX1 20, w ∈ wAll := fun w h => List.mem_append_left _ (List.mem_append_right _ (List.mem_append_right _ (List.mem_append_left _ h)))
theorem inX2 : ∀ w ∈ u_ws RX2 TX2 2, w ∈ wAll := fun w h => List.mem_append_left _ (List.mem_append_right _ (List.mem_append_right _ (List.mem_append_right _ (List.mem_append_left _ h))))
theorem inX3 : ∀ w ∈ u_ws RX3 TX3 4, w ∈ wAll := fun w h => List.mem_append_left _ (List.mem_append_right _ (List.mem_append_right _ (List.mem_append_right _ (List.mem_append_right _ (List.mem_append_left _ h)))))
theorem inX4 : ∀ w ∈ u_ws RX4 TX4 9, w ∈ wAll := fun w h => List.mem_append_left _ (List.mem_append_right _ (List.mem_append_right _ (List.mem_append_right _ (List.mem_append_right _ (List.mem_append_right _ (List.mem_append_left _ h))))))
theorem inX5 : ∀ w ∈ u_ws RX5 TX5 19, w ∈ wAll := fun w h => List.mem_append_left _ (List.mem_append_right _ (List.mem_append_right _ (List.mem_append_right _ (List.mem_append_right _ (List.mem_append_right _ (List.mem_append_right _ (List.mem_append_left _ h)))))))
theorem inX6 : ∀ w ∈ u_ws RX6 TX6 4, w ∈ wAll := fun w h => List.mem_append_left _ (List.mem_append_right _ (List.mem_append_right _ (List.mem_append_right _ (List.mem_append_right _ (List.mem_append_right _ (List.mem_append_right _ (List.mem_append_right _ (List.mem_append_left _ h))))))))
theorem inX7 : ∀ w ∈ u_ws RX7 TX7 14, w ∈ wAll := fun w h => List.mem_append_left _ (List.mem_append_right _ (List.mem_append_right _ (List.mem_append_right _ (List.mem_append_right _ (List.mem_append_right _ (List.mem_append_right _ (List.mem_append_right _ (List.mem_append_right _ (List.mem_append_left _ h)))))))))
theorem inX8 : ∀ w ∈ u_ws RX8 TX8 9, w ∈ wAll := fun w h => List.mem_append_left _ (List.mem_append_right _ (List.mem_append_right _ (List.mem_append_right _ (List.mem_append_right _ (List.mem_append_right _ (List.mem_append_right _ (List.mem_append_right _ (List.mem_append_right _ (List.mem_append_right _ (List.mem_append_left _ h))))))))))
theorem inX9 : ∀ w ∈ u_ws RX9 TX9 15, w ∈ wAll := fun w h => List.mem_append_left _ (List.mem_append_right _ (List.mem_append_right _ (List.mem_append_right _ (List.mem_append_right _ (List.mem_append_right _ (List.mem_append_right _ (List.mem_append_right _ (List.mem_append_right _ (List.mem_append_right _ (List.mem_append_right _ (List.mem_append_left _ h)))))))))))
theorem inX10 : ∀ w ∈ u_ws RX10 TX10 16, w ∈ wAll := fun w h => List.mem_append_left _ (List.mem_append_right _ (List.mem_append_right _ (List.mem_append_right _ (List.mem_append_right _ (List.mem_append_right _ (List.mem_append_right _ (List.mem_append_right _ (List.mem_append_right _ (List.mem_append_right _ (List.mem_append_right _ (List.mem_append_right _ (List.mem_append_left _ h))))))))))))
theorem inX11 : ∀ w ∈ u_ws RX11 TX11 9, w ∈ wAll := fun w h => List.mem_append_left _ (List.mem_append_right _ (List.mem_append_right _ (List.mem_append_right _ (List.mem_append_right _ (List.mem_append_right _ (List.mem_append_right _ (List.mem_append_right _ (List.mem_append_right _ (List.mem_append_right _ (List.mem_append_right _ (List.mem_append_right _ (List.mem_append_right _ (List.mem_append_left _ h)))))))))))))
theorem inX12 : ∀ w ∈ u_ws RX12 TX12 5, w ∈ wAll := fun w h => List.mem_append_left _ (List.mem_append_right _ (List.mem_append_right _ (List.mem_append_right _ (List.mem_append_right _ (List.mem_append_right _ (List.mem_append_right _ (List.mem_append_right _ (List.mem_append_right _ (List.mem_append_right _ (List.mem_append_right _ (List.mem_append_right _ (List.mem_append_right _ (List.mem_append_right _ (List.mem_append_left _ h))))))))))))))
theorem inX13 : ∀ w ∈ u_ws RX13 TX13 89, w ∈ wAll := fun w h => List.mem_append_left _ (List.mem_append_right _ (List.mem_append_right _ (List.mem_append_right _ (List.mem_append_right _ (List.mem_append_right _ (List.mem_append_right _ (List.mem_append_right _ (List.mem_append_right _ (List.mem_append_right _ (List.mem_append_right _ (List.mem_append_right _ (List.mem_append_right _ (List.mem_append_right _ (List.mem_append_right _ (h)))))))))))))))
set_option maxRecDepth 100000 in
theorem dfX12 : ∀ j, j < 5 → defaultValue (tyX12 j) = vp_V [.null, .int 0, .null, .null, .null] j := by decide +kernel
set_option maxRecDepth 100000 in
theorem dfX0 : ∀ j, j < 11 → defaultValue (tyX0 j) = vp_V [.int 0, .int 0, .int 0, .int 0, .int 0, .null, .int 0, .null, .int 0, .null, .null] j := by decide +kernel
set_option maxRecDepth 100000 in
theorem dfX2 : ∀ j, j < 2 → defaultValue (tyX2 j) = vp_V [.null, .null] j := by decide +kernel
set_option maxRecDepth 100000 in
theorem dfX3 : ∀ j, j < 4 → defaultValue (tyX3 j) = vp_V [.null, .int 0, .int 0, .null] j := by decide +kernel
set_option maxRecDepth 100000 in
theorem dfX4 : ∀ j, j < 9 → defaultValue (tyX4 j) = vp_V [.null, .null, .int 0, .int 0, .int 0, .int 0, .null, .int 0, .int 0] j := by decide +kernel
set_option maxRecDepth 100000 in
theorem dfX5 : ∀ j, j < 19 → defaultValue (tyX5 j) = vp_V [.int 0, .null, .int 0, .null, .null, .int 0, .null, .int 0, .int 0, .int 0, .int 0, .null, .int 0, .null, .int 0, .null, .int 0, .null, .null] j := by decide +kernel
set_option maxRecDepth 100000 in
theorem dfX6 : ∀ j, j < 4 → defaultValue (tyX6 j) = vp_V [.null, .null, .int 0, .int 0] j := by decide +kernel
set_option maxRecDepth 100000 in
theorem dfX7 : ∀ j, j < 14 → defaultValue (tyX7 j) = vp_V [.null, .null, .null, .null, .int 0, .null, .null, .null, .null, .int 0, .null, .null, .int 0, .int 0] j := by decide +kernel
set_option maxRecDepth 100000 in
theorem dfX8 : ∀ j, j < 9 → defaultValue (tyX8 j) = vp_V [.null, .null, .int 0, .null, .null, .int 0, .null, .null, .int 0] j := by decide +kernel
set_option maxRecDepth 100000 in
theorem dfX9 : ∀ j, j < 15 → defaultValue (tyX9 j) = vp_V [.null, .null, .int 0, .int 0, .int 0, .int 0, .int 0, .null, .int 0, .int 0, .int 0, .int 0, .null, .int 0, .int 0] j := by decide +kernel
set_option maxRecDepth 100000 in
theorem dfX10 : ∀ j, j < 16 → defaultValue (tyX10 j) = vp_V [.null, .null, .null, .null, .int 0, .null, .int 0, .null, .null, .null, .null, .int 0, .int 0, .int 0, .int 0, .null] j := by decide +kernel
set_option maxRecDepth 100000 in
theorem dfX11 : ∀ j, j < 9 → defaultValue (tyX11 j) = vp_V [.null, .null, .null, .null, .null, .int 0, .null, .null, .null] j := by decide +kernel
set_option maxRecDepth 100000 in
theorem dfX13 : ∀ j, j < 89 → defaultValue (tyX13 j) = vp_V [.null, .int 0, .null, .int 0, .null, .int 0, .int 0, .null, .int 0, .int 0, .int 0, .null, .int 0, .null, .null, .null, .null, .null, .int 0, .null, .int 0, .int 0, .null, .null, .null, .null, .int 0, .null, .null, .int 0, .null, .null, .null, .null, .int 0, .int 0, .int 0, .null, .int 0, .int 0, .null, .null, .null, .null, .int 0, .int 0, .int 0, .int 0, .int 0, .int 0, .int 0, .int 0, .int 0, .int 0, .int 0, .int 0, .int 0, .int 0, .null, .int 0, .null, .int 0, .int 0, .int 0, .int 0, .int 0, .null, .null, .int 0, .int 0, .null, .null, .null, .null, .long 0, .null, .int 0, .int 0, .int 0, .int 0, .int 0, .int 0, .int 0, .null, .null, .int 0, .int 0, .int 0, .int 0] j := by decide +kernel
set_option maxRecDepth 100000 in
theorem dfJx4a65c : ∀ j, j < 3 → defaultValue (tyJx4a65c j) = vp_V [.int 0, .null, .int 0] j := by decide +kernel
set_option maxRecDepth 100000 in
theorem wAll_ok : wAll.all okW = true := by decide +kernel
