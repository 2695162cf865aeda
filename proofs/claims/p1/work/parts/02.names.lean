def RX0 : String := "FilterForge$Coder"
def TX0 : u_T := fun k => match k with
  | 0 => ("FilterForge$Coder", "starts", "[I", true)
  | 1 => ("FilterForge$Coder", "goals", "[I", true)
  | 2 => ("FilterForge$Coder", "filter", "LFilterForge$Filter;", false)
  | 3 => ("FilterForge$Coder", "made", "LFilterForge$Program;", false)
  | _ => ("FilterForge$Coder", "length", "I", false)
def tyX0 : Nat → FieldType := fun k => match k with
  | 0 => .array .int
  | 1 => .array .int
  | 2 => .object "FilterForge$Filter"
  | 3 => .object "FilterForge$Program"
  | _ => .int
abbrev wsX00 : List Cond := u_ws RX0 TX0 5
theorem nmX0 : ∀ a, a < 5 → ∀ b, b < 5 → a ≠ b → (TX0 a).2.1 ≠ (TX0 b).2.1 := by decide +kernel
theorem tyX0_ok : ∀ k, k < 5 → parseFieldDescriptor (TX0 k).2.2.1 = some (tyX0 k) := by decide +kernel
def RX1 : String := "FilterForge$Fact"
def TX1 : u_T := fun k => match k with
  | 0 => ("FilterForge$Fact", "kind", "I", false)
  | 1 => ("FilterForge$Fact", "low", "J", false)
  | 2 => ("FilterForge$Fact", "high", "J", false)
  | 3 => ("FilterForge$Fact", "sure", "J", false)
  | _ => ("FilterForge$Fact", "ones", "J", false)
def tyX1 : Nat → FieldType := fun k => match k with
  | 0 => .int
  | 1 => .long
  | 2 => .long
  | 3 => .long
  | _ => .long
abbrev wsX10 : List Cond := u_ws RX1 TX1 5
theorem nmX1 : ∀ a, a < 5 → ∀ b, b < 5 → a ≠ b → (TX1 a).2.1 ≠ (TX1 b).2.1 := by decide +kernel
theorem tyX1_ok : ∀ k, k < 5 → parseFieldDescriptor (TX1 k).2.2.1 = some (tyX1 k) := by decide +kernel
def RX2 : String := "FilterForge$Filter"
def TX2 : u_T := fun k => match k with
  | 0 => ("FilterForge$Filter", "kinds", "[I", true)
  | 1 => ("FilterForge$Filter", "hows", "[I", true)
  | 2 => ("FilterForge$Filter", "numbers", "[I", true)
  | 3 => ("FilterForge$Filter", "itemCount", "I", false)
  | 4 => ("FilterForge$Filter", "from", "[I", true)
  | 5 => ("FilterForge$Filter", "middle", "[I", true)
  | 6 => ("FilterForge$Filter", "until", "[I", true)
  | 7 => ("FilterForge$Filter", "ops", "[I", true)
  | 8 => ("FilterForge$Filter", "yes", "[I", true)
  | 9 => ("FilterForge$Filter", "no", "[I", true)
  | 10 => ("FilterForge$Filter", "kept", "[Z", true)
  | 11 => ("FilterForge$Filter", "blockCount", "I", false)
  | 12 => ("FilterForge$Filter", "leftOut", "I", false)
  | 13 => ("FilterForge$Filter", "labels", "[I", true)
  | 14 => ("FilterForge$Filter", "labelCount", "I", false)
  | 15 => ("FilterForge$Filter", "asked", "[I", true)
  | 16 => ("FilterForge$Filter", "askedCount", "I", false)
  | _ => ("FilterForge$Filter", "pushed", "[J", true)
def tyX2 : Nat → FieldType := fun k => match k with
  | 0 => .array .int
  | 1 => .array .int
  | 2 => .array .int
  | 3 => .int
  | 4 => .array .int
  | 5 => .array .int
  | 6 => .array .int
  | 7 => .array .int
  | 8 => .array .int
  | 9 => .array .int
  | 10 => .array .boolean
  | 11 => .int
  | 12 => .int
  | 13 => .array .int
  | 14 => .int
  | 15 => .array .int
  | 16 => .int
  | _ => .array .long
abbrev wsX20 : List Cond := u_ws RX2 TX2 18
theorem nmX2 : ∀ a, a < 18 → ∀ b, b < 18 → a ≠ b → (TX2 a).2.1 ≠ (TX2 b).2.1 := by decide +kernel
theorem tyX2_ok : ∀ k, k < 18 → parseFieldDescriptor (TX2 k).2.2.1 = some (tyX2 k) := by decide +kernel
def RX3 : String := "FilterForge$Inspector"
def TX3 : u_T := fun k => match k with
  | 0 => ("FilterForge$Inspector", "kinds", "[B", false)
  | 1 => ("FilterForge$Inspector", "lows", "[J", false)
  | 2 => ("FilterForge$Inspector", "highs", "[J", false)
  | 3 => ("FilterForge$Inspector", "sures", "[J", false)
  | 4 => ("FilterForge$Inspector", "oneBits", "[J", false)
  | 5 => ("FilterForge$Inspector", "sets", "[J", false)
  | 6 => ("FilterForge$Inspector", "reached", "[Z", false)
  | 7 => ("FilterForge$Inspector", "now", "[LFilterForge$Fact;", true)
  | 8 => ("FilterForge$Inspector", "side", "LFilterForge$Fact;", true)
  | 9 => ("FilterForge$Inspector", "place", "LFilterForge$Fact;", true)
  | 10 => ("FilterForge$Inspector", "former", "LFilterForge$Fact;", true)
  | 11 => ("FilterForge$Inspector", "nowSet", "J", false)
  | 12 => ("FilterForge$Inspector", "program", "LFilterForge$Program;", false)
  | _ => ("FilterForge$Inspector", "lastTold", "I", false)
def tyX3 : Nat → FieldType := fun k => match k with
  | 0 => .array .byte
  | 1 => .array .long
  | 2 => .array .long
  | 3 => .array .long
  | 4 => .array .long
  | 5 => .array .long
  | 6 => .array .boolean
  | 7 => .array (.object "FilterForge$Fact")
  | 8 => .object "FilterForge$Fact"
  | 9 => .object "FilterForge$Fact"
  | 10 => .object "FilterForge$Fact"
  | 11 => .long
  | 12 => .object "FilterForge$Program"
  | _ => .int
abbrev wsX30 : List Cond := u_ws RX3 TX3 14
theorem nmX3 : ∀ a, a < 14 → ∀ b, b < 14 → a ≠ b → (TX3 a).2.1 ≠ (TX3 b).2.1 := by decide +kernel
theorem tyX3_ok : ∀ k, k < 14 → parseFieldDescriptor (TX3 k).2.2.1 = some (tyX3 k) := by decide +kernel
def RX4 : String := "FilterForge$Machine"
def TX4 : u_T := fun k => match k with
  | 0 => ("FilterForge$Machine", "registers", "[J", true)
  | 1 => ("FilterForge$Machine", "stackRow", "[B", true)
  | 2 => ("FilterForge$Machine", "packets", "LFilterForge$Packets;", true)
  | 3 => ("FilterForge$Machine", "packet", "I", false)
  | 4 => ("FilterForge$Machine", "shown", "I", false)
  | 5 => ("FilterForge$Machine", "trap", "I", false)
  | 6 => ("FilterForge$Machine", "steps", "I", false)
  | 7 => ("FilterForge$Machine", "place", "I", false)
  | 8 => ("FilterForge$Machine", "next", "J", false)
  | _ => ("FilterForge$Machine", "over", "Z", false)
def tyX4 : Nat → FieldType := fun k => match k with
  | 0 => .array .long
  | 1 => .array .byte
  | 2 => .object "FilterForge$Packets"
  | 3 => .int
  | 4 => .int
  | 5 => .int
  | 6 => .int
  | 7 => .int
  | 8 => .long
  | _ => .boolean
abbrev wsX40 : List Cond := u_ws RX4 TX4 10
theorem nmX4 : ∀ a, a < 10 → ∀ b, b < 10 → a ≠ b → (TX4 a).2.1 ≠ (TX4 b).2.1 := by decide +kernel
theorem tyX4_ok : ∀ k, k < 10 → parseFieldDescriptor (TX4 k).2.2.1 = some (tyX4 k) := by decide +kernel
def RX5 : String := "FilterForge$ObjectCode"
def TX5 : u_T := fun k => match k with
  | 0 => ("FilterForge$ObjectCode", "row", "[I", true)
  | _ => ("FilterForge$ObjectCode", "length", "I", false)
def tyX5 : Nat → FieldType := fun k => match k with
  | 0 => .array .int
  | _ => .int
abbrev wsX50 : List Cond := u_ws RX5 TX5 2
theorem nmX5 : ∀ a, a < 2 → ∀ b, b < 2 → a ≠ b → (TX5 a).2.1 ≠ (TX5 b).2.1 := by decide +kernel
theorem tyX5_ok : ∀ k, k < 2 → parseFieldDescriptor (TX5 k).2.2.1 = some (tyX5 k) := by decide +kernel
def RX6 : String := "FilterForge$Packets"
def TX6 : u_T := fun k => match k with
  | 0 => ("FilterForge$Packets", "cells", "[B", true)
  | 1 => ("FilterForge$Packets", "lengths", "[I", true)
  | _ => ("FilterForge$Packets", "held", "I", false)
def tyX6 : Nat → FieldType := fun k => match k with
  | 0 => .array .byte
  | 1 => .array .int
  | _ => .int
abbrev wsX60 : List Cond := u_ws RX6 TX6 3
theorem nmX6 : ∀ a, a < 3 → ∀ b, b < 3 → a ≠ b → (TX6 a).2.1 ≠ (TX6 b).2.1 := by decide +kernel
theorem tyX6_ok : ∀ k, k < 3 → parseFieldDescriptor (TX6 k).2.2.1 = some (tyX6 k) := by decide +kernel
def RX7 : String := "FilterForge$Program"
def TX7 : u_T := fun k => match k with
  | 0 => ("FilterForge$Program", "row", "[J", true)
  | _ => ("FilterForge$Program", "length", "I", false)
def tyX7 : Nat → FieldType := fun k => match k with
  | 0 => .array .long
  | _ => .int
abbrev wsX70 : List Cond := u_ws RX7 TX7 2
theorem nmX7 : ∀ a, a < 2 → ∀ b, b < 2 → a ≠ b → (TX7 a).2.1 ≠ (TX7 b).2.1 := by decide +kernel
theorem tyX7_ok : ∀ k, k < 2 → parseFieldDescriptor (TX7 k).2.2.1 = some (tyX7 k) := by decide +kernel
def RX8 : String := "FilterForge$Reader"
def TX8 : u_T := fun k => match k with
  | 0 => ("FilterForge$Reader", "text", "LFilterForge$Tape;", true)
  | 1 => ("FilterForge$Reader", "made", "LFilterForge$Filter;", false)
  | 2 => ("FilterForge$Reader", "kind", "I", false)
  | 3 => ("FilterForge$Reader", "first", "I", false)
  | 4 => ("FilterForge$Reader", "behind", "I", false)
  | _ => ("FilterForge$Reader", "wrong", "I", false)
def tyX8 : Nat → FieldType := fun k => match k with
  | 0 => .object "FilterForge$Tape"
  | 1 => .object "FilterForge$Filter"
  | 2 => .int
  | 3 => .int
  | 4 => .int
  | _ => .int
abbrev wsX80 : List Cond := u_ws RX8 TX8 6
theorem nmX8 : ∀ a, a < 6 → ∀ b, b < 6 → a ≠ b → (TX8 a).2.1 ≠ (TX8 b).2.1 := by decide +kernel
theorem tyX8_ok : ∀ k, k < 6 → parseFieldDescriptor (TX8 k).2.2.1 = some (tyX8 k) := by decide +kernel
def RX9 : String := "FilterForge$Tape"
def TX9 : u_T := fun k => match k with
  | 0 => ("FilterForge$Tape", "row", "[B", true)
  | _ => ("FilterForge$Tape", "length", "I", false)
def tyX9 : Nat → FieldType := fun k => match k with
  | 0 => .array .byte
  | _ => .int
abbrev wsX90 : List Cond := u_ws RX9 TX9 2
theorem nmX9 : ∀ a, a < 2 → ∀ b, b < 2 → a ≠ b → (TX9 a).2.1 ≠ (TX9 b).2.1 := by decide +kernel
theorem tyX9_ok : ∀ k, k < 2 → parseFieldDescriptor (TX9 k).2.2.1 = some (tyX9 k) := by decide +kernel
def RX10 : String := "FilterForge$Translator"
def TX10 : u_T := fun k => match k with
  | 0 => ("FilterForge$Translator", "starts", "[I", true)
  | 1 => ("FilterForge$Translator", "made", "LFilterForge$ObjectCode;", true)
  | 2 => ("FilterForge$Translator", "source", "LFilterForge$Program;", false)
  | 3 => ("FilterForge$Translator", "writes", "Z", false)
  | _ => ("FilterForge$Translator", "length", "I", false)
def tyX10 : Nat → FieldType := fun k => match k with
  | 0 => .array .int
  | 1 => .object "FilterForge$ObjectCode"
  | 2 => .object "FilterForge$Program"
  | 3 => .boolean
  | _ => .int
abbrev wsX100 : List Cond := u_ws RX10 TX10 5
theorem nmX10 : ∀ a, a < 5 → ∀ b, b < 5 → a ≠ b → (TX10 a).2.1 ≠ (TX10 b).2.1 := by decide +kernel
theorem tyX10_ok : ∀ k, k < 5 → parseFieldDescriptor (TX10 k).2.2.1 = some (tyX10 k) := by decide +kernel
def RX11 : String := "FilterForge"
def TX11 : u_T := fun k => match k with
  | 0 => ("FilterForge", "tape", "LFilterForge$Tape;", true)
  | 1 => ("FilterForge", "packets", "LFilterForge$Packets;", true)
  | 2 => ("FilterForge", "machine", "LFilterForge$Machine;", true)
  | 3 => ("FilterForge", "object", "LFilterForge$ObjectCode;", true)
  | 4 => ("FilterForge", "filter", "LFilterForge$Filter;", false)
  | 5 => ("FilterForge", "spareFilter", "LFilterForge$Filter;", false)
  | 6 => ("FilterForge", "program", "LFilterForge$Program;", false)
  | 7 => ("FilterForge", "spareProgram", "LFilterForge$Program;", false)
  | 8 => ("FilterForge", "filterRead", "Z", false)
  | 9 => ("FilterForge", "reader", "LFilterForge$Reader;", true)
  | 10 => ("FilterForge", "coder", "LFilterForge$Coder;", true)
  | 11 => ("FilterForge", "translator", "LFilterForge$Translator;", true)
  | 12 => ("FilterForge", "inspector", "LFilterForge$Inspector;", true)
  | _ => ("FilterForge", "gatekeeper", "LFilterForge$Inspector;", true)
def tyX11 : Nat → FieldType := fun k => match k with
  | 0 => .object "FilterForge$Tape"
  | 1 => .object "FilterForge$Packets"
  | 2 => .object "FilterForge$Machine"
  | 3 => .object "FilterForge$ObjectCode"
  | 4 => .object "FilterForge$Filter"
  | 5 => .object "FilterForge$Filter"
  | 6 => .object "FilterForge$Program"
  | 7 => .object "FilterForge$Program"
  | 8 => .boolean
  | 9 => .object "FilterForge$Reader"
  | 10 => .object "FilterForge$Coder"
  | 11 => .object "FilterForge$Translator"
  | 12 => .object "FilterForge$Inspector"
  | _ => .object "FilterForge$Inspector"
abbrev wsX110 : List Cond := u_ws RX11 TX11 14
theorem nmX11 : ∀ a, a < 14 → ∀ b, b < 14 → a ≠ b → (TX11 a).2.1 ≠ (TX11 b).2.1 := by decide +kernel
theorem tyX11_ok : ∀ k, k < 14 → parseFieldDescriptor (TX11 k).2.2.1 = some (tyX11 k) := by decide +kernel
def RX12 : String := "FilterForgeModel$Filter"
def TX12 : u_T := fun k => match k with
  | 0 => ("FilterForgeModel$Filter", "kind", "I", true)
  | 1 => ("FilterForgeModel$Filter", "a", "LFilterForgeModel$Filter;", true)
  | 2 => ("FilterForgeModel$Filter", "b", "LFilterForgeModel$Filter;", true)
  | 3 => ("FilterForgeModel$Filter", "left", "LFilterForgeModel$Sum;", true)
  | 4 => ("FilterForgeModel$Filter", "right", "LFilterForgeModel$Sum;", true)
  | 5 => ("FilterForgeModel$Filter", "sign", "I", true)
  | _ => ("FilterForgeModel$Filter", "first", "I", false)
def tyX12 : Nat → FieldType := fun k => match k with
  | 0 => .int
  | 1 => .object "FilterForgeModel$Filter"
  | 2 => .object "FilterForgeModel$Filter"
  | 3 => .object "FilterForgeModel$Sum"
  | 4 => .object "FilterForgeModel$Sum"
  | 5 => .int
  | _ => .int
abbrev wsX120 : List Cond := u_ws RX12 TX12 7
theorem nmX12 : ∀ a, a < 7 → ∀ b, b < 7 → a ≠ b → (TX12 a).2.1 ≠ (TX12 b).2.1 := by decide +kernel
theorem tyX12_ok : ∀ k, k < 7 → parseFieldDescriptor (TX12 k).2.2.1 = some (tyX12 k) := by decide +kernel
def RX13 : String := "FilterForgeModel$Never"
def TX13 : u_T := fun k => match k with
  | 0 => ("java/lang/Throwable", "cause", "Ljava/lang/Throwable;", false)
  | 1 => ("java/lang/Throwable", "stackTrace", "[Ljava/lang/StackTraceElement;", false)
  | 2 => ("java/lang/Throwable", "suppressedExceptions", "Ljava/util/List;", false)
  | 3 => ("java/lang/Throwable", "detailMessage", "Ljava/lang/String;", false)
  | 4 => ("java/lang/Throwable", "backtrace", "Ljava/lang/Object;", false)
  | _ => ("java/lang/Throwable", "depth", "I", false)
def tyX13 : Nat → FieldType := fun k => match k with
  | 0 => .object "java/lang/Throwable"
  | 1 => .array (.object "java/lang/StackTraceElement")
  | 2 => .object "java/util/List"
  | 3 => .object "java/lang/String"
  | 4 => .object "java/lang/Object"
  | _ => .int
abbrev wsX130 : List Cond := u_ws RX13 TX13 6
theorem nmX13 : ∀ a, a < 6 → ∀ b, b < 6 → a ≠ b → (TX13 a).2.1 ≠ (TX13 b).2.1 := by decide +kernel
theorem tyX13_ok : ∀ k, k < 6 → parseFieldDescriptor (TX13 k).2.2.1 = some (tyX13 k) := by decide +kernel
def RX14 : String := "FilterForgeModel$Sum"
def TX14 : u_T := fun k => match k with
  | 0 => ("FilterForgeModel$Sum", "kind", "I", true)
  | 1 => ("FilterForgeModel$Sum", "value", "J", true)
  | 2 => ("FilterForgeModel$Sum", "a", "LFilterForgeModel$Sum;", true)
  | 3 => ("FilterForgeModel$Sum", "b", "LFilterForgeModel$Sum;", true)
  | _ => ("FilterForgeModel$Sum", "size", "I", true)
def tyX14 : Nat → FieldType := fun k => match k with
  | 0 => .int
  | 1 => .long
  | 2 => .object "FilterForgeModel$Sum"
  | 3 => .object "FilterForgeModel$Sum"
  | _ => .int
abbrev wsX140 : List Cond := u_ws RX14 TX14 5
theorem nmX14 : ∀ a, a < 5 → ∀ b, b < 5 → a ≠ b → (TX14 a).2.1 ≠ (TX14 b).2.1 := by decide +kernel
theorem tyX14_ok : ∀ k, k < 5 → parseFieldDescriptor (TX14 k).2.2.1 = some (tyX14 k) := by decide +kernel
def RX15 : String := "FilterForgeModel$Wrong"
def TX15 : u_T := fun k => match k with
  | 0 => ("java/lang/Throwable", "cause", "Ljava/lang/Throwable;", false)
  | 1 => ("java/lang/Throwable", "stackTrace", "[Ljava/lang/StackTraceElement;", false)
  | 2 => ("java/lang/Throwable", "suppressedExceptions", "Ljava/util/List;", false)
  | 3 => ("java/lang/Throwable", "detailMessage", "Ljava/lang/String;", false)
  | 4 => ("java/lang/Throwable", "backtrace", "Ljava/lang/Object;", false)
  | 5 => ("java/lang/Throwable", "depth", "I", false)
  | _ => ("FilterForgeModel$Wrong", "place", "I", true)
def tyX15 : Nat → FieldType := fun k => match k with
  | 0 => .object "java/lang/Throwable"
  | 1 => .array (.object "java/lang/StackTraceElement")
  | 2 => .object "java/util/List"
  | 3 => .object "java/lang/String"
  | 4 => .object "java/lang/Object"
  | 5 => .int
  | _ => .int
abbrev wsX150 : List Cond := u_ws RX15 TX15 7
theorem nmX15 : ∀ a, a < 7 → ∀ b, b < 7 → a ≠ b → (TX15 a).2.1 ≠ (TX15 b).2.1 := by decide +kernel
theorem tyX15_ok : ∀ k, k < 7 → parseFieldDescriptor (TX15 k).2.2.1 = some (tyX15 k) := by decide +kernel
def RX16 : String := "FilterForgeModel"
def TX16 : u_T := fun k => match k with
  | 0 => ("FilterForgeModel", "tape", "[I", true)
  | 1 => ("FilterForgeModel", "fed", "I", false)
  | 2 => ("FilterForgeModel", "packetBytes", "[I", true)
  | 3 => ("FilterForgeModel", "packetLengths", "[I", true)
  | 4 => ("FilterForgeModel", "packets", "I", false)
  | 5 => ("FilterForgeModel", "wordKind", "I", false)
  | 6 => ("FilterForgeModel", "wordFrom", "I", false)
  | 7 => ("FilterForgeModel", "wordTo", "I", false)
  | 8 => ("FilterForgeModel", "textEnd", "I", false)
  | 9 => ("FilterForgeModel", "openFilters", "I", false)
  | 10 => ("FilterForgeModel", "openSums", "I", false)
  | 11 => ("FilterForgeModel", "pending", "I", false)
  | 12 => ("FilterForgeModel", "guards", "[I", true)
  | 13 => ("FilterForgeModel", "guardMany", "I", false)
  | 14 => ("FilterForgeModel", "tests", "[LFilterForgeModel$Filter;", false)
  | 15 => ("FilterForgeModel", "testMany", "I", false)
  | 16 => ("FilterForgeModel", "yes", "[I", false)
  | 17 => ("FilterForgeModel", "no", "[I", false)
  | 18 => ("FilterForgeModel", "wasRead", "Z", false)
  | 19 => ("FilterForgeModel", "leftOut", "I", false)
  | 20 => ("FilterForgeModel", "pile", "[LFilterForgeModel$Filter;", false)
  | 21 => ("FilterForgeModel", "pileYes", "[I", false)
  | 22 => ("FilterForgeModel", "pileNo", "[I", false)
  | 23 => ("FilterForgeModel", "piled", "I", false)
  | 24 => ("FilterForgeModel", "spine", "[LFilterForgeModel$Sum;", false)
  | 25 => ("FilterForgeModel", "spined", "I", false)
  | 26 => ("FilterForgeModel", "program", "[J", false)
  | 27 => ("FilterForgeModel", "hasProgram", "Z", false)
  | 28 => ("FilterForgeModel", "code", "[J", false)
  | 29 => ("FilterForgeModel", "coded", "I", false)
  | 30 => ("FilterForgeModel", "wantsAt", "[I", false)
  | 31 => ("FilterForgeModel", "wantsWhat", "[I", false)
  | 32 => ("FilterForgeModel", "wants", "I", false)
  | 33 => ("FilterForgeModel", "registers", "[J", true)
  | 34 => ("FilterForgeModel", "stackBytes", "[I", true)
  | 35 => ("FilterForgeModel", "trap", "I", false)
  | 36 => ("FilterForgeModel", "steps", "I", false)
  | 37 => ("FilterForgeModel", "endedAt", "I", false)
  | 38 => ("FilterForgeModel", "wasEmulated", "Z", false)
  | 39 => ("FilterForgeModel", "kinds", "[I", false)
  | 40 => ("FilterForgeModel", "lows", "[J", false)
  | 41 => ("FilterForgeModel", "highs", "[J", false)
  | 42 => ("FilterForgeModel", "knowns", "[J", false)
  | 43 => ("FilterForgeModel", "ones", "[J", false)
  | 44 => ("FilterForgeModel", "sets", "[J", false)
  | 45 => ("FilterForgeModel", "comes", "[Z", false)
  | 46 => ("FilterForgeModel", "looked", "I", false)
  | 47 => ("FilterForgeModel", "low", "J", false)
  | 48 => ("FilterForgeModel", "high", "J", false)
  | 49 => ("FilterForgeModel", "known", "J", false)
  | 50 => ("FilterForgeModel", "one", "J", false)
  | 51 => ("FilterForgeModel", "yLow", "J", false)
  | 52 => ("FilterForgeModel", "yHigh", "J", false)
  | 53 => ("FilterForgeModel", "yKnown", "J", false)
  | 54 => ("FilterForgeModel", "yOne", "J", false)
  | 55 => ("FilterForgeModel", "kind", "[I", true)
  | 56 => ("FilterForgeModel", "l", "[J", true)
  | 57 => ("FilterForgeModel", "h", "[J", true)
  | 58 => ("FilterForgeModel", "k", "[J", true)
  | 59 => ("FilterForgeModel", "o", "[J", true)
  | 60 => ("FilterForgeModel", "set", "J", false)
  | 61 => ("FilterForgeModel", "otherKinds", "[I", false)
  | 62 => ("FilterForgeModel", "otherLows", "[J", false)
  | 63 => ("FilterForgeModel", "otherHighs", "[J", false)
  | 64 => ("FilterForgeModel", "otherKnowns", "[J", false)
  | 65 => ("FilterForgeModel", "otherOnes", "[J", false)
  | 66 => ("FilterForgeModel", "otherSets", "[J", false)
  | 67 => ("FilterForgeModel", "otherComes", "[Z", false)
  | 68 => ("FilterForgeModel", "otherLooked", "I", false)
  | 69 => ("FilterForgeModel", "object", "[I", true)
  | 70 => ("FilterForgeModel", "objectMany", "I", false)
  | 71 => ("FilterForgeModel", "hasObject", "Z", false)
  | 72 => ("FilterForgeModel", "words", "[I", true)
  | 73 => ("FilterForgeModel", "wordMany", "I", false)
  | 74 => ("FilterForgeModel", "wordOf", "[I", true)
  | 75 => ("FilterForgeModel", "goesTo", "J", false)
  | 76 => ("FilterForgeModel", "isBad", "Z", false)
  | _ => ("FilterForgeModel", "noMemory", "Z", false)
def tyX16 : Nat → FieldType := fun k => match k with
  | 0 => .array .int
  | 1 => .int
  | 2 => .array .int
  | 3 => .array .int
  | 4 => .int
  | 5 => .int
  | 6 => .int
  | 7 => .int
  | 8 => .int
  | 9 => .int
  | 10 => .int
  | 11 => .int
  | 12 => .array .int
  | 13 => .int
  | 14 => .array (.object "FilterForgeModel$Filter")
  | 15 => .int
  | 16 => .array .int
  | 17 => .array .int
  | 18 => .boolean
  | 19 => .int
  | 20 => .array (.object "FilterForgeModel$Filter")
  | 21 => .array .int
  | 22 => .array .int
  | 23 => .int
  | 24 => .array (.object "FilterForgeModel$Sum")
  | 25 => .int
  | 26 => .array .long
  | 27 => .boolean
  | 28 => .array .long
  | 29 => .int
  | 30 => .array .int
  | 31 => .array .int
  | 32 => .int
  | 33 => .array .long
  | 34 => .array .int
  | 35 => .int
  | 36 => .int
  | 37 => .int
  | 38 => .boolean
  | 39 => .array .int
  | 40 => .array .long
  | 41 => .array .long
  | 42 => .array .long
  | 43 => .array .long
  | 44 => .array .long
  | 45 => .array .boolean
  | 46 => .int
  | 47 => .long
  | 48 => .long
  | 49 => .long
  | 50 => .long
  | 51 => .long
  | 52 => .long
  | 53 => .long
  | 54 => .long
  | 55 => .array .int
  | 56 => .array .long
  | 57 => .array .long
  | 58 => .array .long
  | 59 => .array .long
  | 60 => .long
  | 61 => .array .int
  | 62 => .array .long
  | 63 => .array .long
  | 64 => .array .long
  | 65 => .array .long
  | 66 => .array .long
  | 67 => .array .boolean
  | 68 => .int
  | 69 => .array .int
  | 70 => .int
  | 71 => .boolean
  | 72 => .array .int
  | 73 => .int
  | 74 => .array .int
  | 75 => .long
  | 76 => .boolean
  | _ => .boolean
abbrev wsX160 : List Cond := u_ws RX16 TX16 78
theorem nmX16 : ∀ a, a < 78 → ∀ b, b < 78 → a ≠ b → (TX16 a).2.1 ≠ (TX16 b).2.1 := by decide +kernel
theorem tyX16_ok : ∀ k, k < 78 → parseFieldDescriptor (TX16 k).2.2.1 = some (tyX16 k) := by decide +kernel
def RL : String := "FilterForgeLaw"
abbrev cX0_init : ByteArray := prog_2_method_1_code
def yX0_init : MethodName := ⟨RX0, "<init>", "(LFilterForge$Filter;LFilterForge$Program;)V"⟩
abbrev cX1_init : ByteArray := prog_3_method_1_code
def yX1_init : MethodName := ⟨RX1, "<init>", "()V"⟩
abbrev cX2_init : ByteArray := prog_4_method_1_code
def yX2_init : MethodName := ⟨RX2, "<init>", "()V"⟩
abbrev cX2_clear : ByteArray := prog_4_method_2_code
def yX2_clear : MethodName := ⟨RX2, "clear", "()V"⟩
abbrev cX2_newLabel : ByteArray := prog_4_method_3_code
def yX2_newLabel : MethodName := ⟨RX2, "newLabel", "()I"⟩
abbrev cX2_joinLabel : ByteArray := prog_4_method_5_code
def yX2_joinLabel : MethodName := ⟨RX2, "joinLabel", "(II)V"⟩
abbrev cX3_init : ByteArray := prog_5_method_1_code
def yX3_init : MethodName := ⟨RX3, "<init>", "(LFilterForge$Program;)V"⟩
abbrev cX3_look : ByteArray := prog_5_method_2_code
def yX3_look : MethodName := ⟨RX3, "look", "(LFilterForge$Program;)I"⟩
abbrev cX3_tell : ByteArray := prog_5_method_3_code
def yX3_tell : MethodName := ⟨RX3, "tell", "(III)J"⟩
abbrev cX4_init : ByteArray := prog_6_method_1_code
def yX4_init : MethodName := ⟨RX4, "<init>", "(LFilterForge$Packets;)V"⟩
abbrev cX5_init : ByteArray := prog_7_method_1_code
def yX5_init : MethodName := ⟨RX5, "<init>", "()V"⟩
abbrev cX5_takeTape : ByteArray := prog_7_method_2_code
def yX5_takeTape : MethodName := ⟨RX5, "takeTape", "(LFilterForge$Tape;)I"⟩
abbrev cX5_at : ByteArray := prog_7_method_3_code
def yX5_at : MethodName := ⟨RX5, "at", "(I)I"⟩
abbrev cX6_init : ByteArray := prog_8_method_1_code
def yX6_init : MethodName := ⟨RX6, "<init>", "()V"⟩
abbrev cX6_add : ByteArray := prog_8_method_2_code
def yX6_add : MethodName := ⟨RX6, "add", "(LFilterForge$Tape;)I"⟩
abbrev cX6_lengthOf : ByteArray := prog_8_method_3_code
def yX6_lengthOf : MethodName := ⟨RX6, "lengthOf", "(I)I"⟩
abbrev cX6_at : ByteArray := prog_8_method_4_code
def yX6_at : MethodName := ⟨RX6, "at", "(IJ)I"⟩
abbrev cX6_eightFrom : ByteArray := prog_8_method_5_code
def yX6_eightFrom : MethodName := ⟨RX6, "eightFrom", "(II)J"⟩
abbrev cX7_init : ByteArray := prog_9_method_1_code
def yX7_init : MethodName := ⟨RX7, "<init>", "()V"⟩
abbrev cX7_takeTape : ByteArray := prog_9_method_2_code
def yX7_takeTape : MethodName := ⟨RX7, "takeTape", "(LFilterForge$Tape;)I"⟩
abbrev cX7_at : ByteArray := prog_9_method_3_code
def yX7_at : MethodName := ⟨RX7, "at", "(I)J"⟩
abbrev cX8_init : ByteArray := prog_10_method_1_code
def yX8_init : MethodName := ⟨RX8, "<init>", "(LFilterForge$Tape;LFilterForge$Filter;)V"⟩
abbrev cX8_begin : ByteArray := prog_10_method_2_code
def yX8_begin : MethodName := ⟨RX8, "begin", "(LFilterForge$Filter;)V"⟩
abbrev cX8_wrongPlace : ByteArray := prog_10_method_3_code
def yX8_wrongPlace : MethodName := ⟨RX8, "wrongPlace", "()I"⟩
abbrev cX8_fail : ByteArray := prog_10_method_4_code
def yX8_fail : MethodName := ⟨RX8, "fail", "()V"⟩
abbrev cX8_next : ByteArray := prog_10_method_5_code
def yX8_next : MethodName := ⟨RX8, "next", "()V"⟩
abbrev cX8_behindBlanks : ByteArray := prog_10_method_6_code
def yX8_behindBlanks : MethodName := ⟨RX8, "behindBlanks", "(I)I"⟩
abbrev cX8_isWord : ByteArray := prog_10_method_11_code
def yX8_isWord : MethodName := ⟨RX8, "isWord", "(Ljava/lang/String;)Z"⟩
abbrev cX8_protocol : ByteArray := prog_10_method_13_code
def yX8_protocol : MethodName := ⟨RX8, "protocol", "()I"⟩
abbrev cX8_number : ByteArray := prog_10_method_14_code
def yX8_number : MethodName := ⟨RX8, "number", "()J"⟩
abbrev cX8_readFilter : ByteArray := prog_10_method_22_code
def yX8_readFilter : MethodName := ⟨RX8, "readFilter", "(III)V"⟩
abbrev cX8_readRow : ByteArray := prog_10_method_23_code
def yX8_readRow : MethodName := ⟨RX8, "readRow", "(III)V"⟩
abbrev cX8_readOne : ByteArray := prog_10_method_24_code
def yX8_readOne : MethodName := ⟨RX8, "readOne", "(III)V"⟩
abbrev cX8_beginsRelation : ByteArray := prog_10_method_25_code
def yX8_beginsRelation : MethodName := ⟨RX8, "beginsRelation", "()Z"⟩
abbrev cX8_readSided : ByteArray := prog_10_method_27_code
def yX8_readSided : MethodName := ⟨RX8, "readSided", "(II)V"⟩
abbrev cX8_readLength : ByteArray := prog_10_method_29_code
def yX8_readLength : MethodName := ⟨RX8, "readLength", "(II)V"⟩
abbrev cX9_init : ByteArray := prog_11_method_1_code
def yX9_init : MethodName := ⟨RX9, "<init>", "()V"⟩
abbrev cX9_hasRoom : ByteArray := prog_11_method_2_code
def yX9_hasRoom : MethodName := ⟨RX9, "hasRoom", "(I)Z"⟩
abbrev cX9_put : ByteArray := prog_11_method_3_code
def yX9_put : MethodName := ⟨RX9, "put", "(I)V"⟩
abbrev cX9_at : ByteArray := prog_11_method_4_code
def yX9_at : MethodName := ⟨RX9, "at", "(I)I"⟩
abbrev cX10_init : ByteArray := prog_12_method_1_code
def yX10_init : MethodName := ⟨RX10, "<init>", "(LFilterForge$Program;LFilterForge$ObjectCode;)V"⟩
abbrev cX11_init : ByteArray := prog_1_method_1_code
def yX11_init : MethodName := ⟨RX11, "<init>", "()V"⟩
abbrev cX11_feed : ByteArray := prog_1_method_2_code
def yX11_feed : MethodName := ⟨RX11, "feed", "(IIIII)I"⟩
abbrev cX11_end : ByteArray := prog_1_method_3_code
def yX11_end : MethodName := ⟨RX11, "end", "(I)I"⟩
abbrev cX11_packet : ByteArray := prog_1_method_4_code
def yX11_packet : MethodName := ⟨RX11, "packet", "()I"⟩
abbrev cX11_bytes : ByteArray := prog_1_method_5_code
def yX11_bytes : MethodName := ⟨RX11, "bytes", "(II)J"⟩
abbrev cX11_compile : ByteArray := prog_1_method_6_code
def yX11_compile : MethodName := ⟨RX11, "compile", "()I"⟩
abbrev cX11_load : ByteArray := prog_1_method_8_code
def yX11_load : MethodName := ⟨RX11, "load", "()I"⟩
abbrev cX11_instruction : ByteArray := prog_1_method_9_code
def yX11_instruction : MethodName := ⟨RX11, "instruction", "(I)J"⟩
abbrev cX11_verify : ByteArray := prog_1_method_10_code
def yX11_verify : MethodName := ⟨RX11, "verify", "()I"⟩
abbrev cX11_known : ByteArray := prog_1_method_11_code
def yX11_known : MethodName := ⟨RX11, "known", "(III)J"⟩
abbrev cX11_run : ByteArray := prog_1_method_12_code
def yX11_run : MethodName := ⟨RX11, "run", "(I)J"⟩
abbrev cX11_translate : ByteArray := prog_1_method_13_code
def yX11_translate : MethodName := ⟨RX11, "translate", "()I"⟩
abbrev cX11_raw : ByteArray := prog_1_method_14_code
def yX11_raw : MethodName := ⟨RX11, "raw", "()I"⟩
abbrev cX11_word : ByteArray := prog_1_method_15_code
def yX11_word : MethodName := ⟨RX11, "word", "(I)I"⟩
abbrev cX11_emulate : ByteArray := prog_1_method_16_code
def yX11_emulate : MethodName := ⟨RX11, "emulate", "(I)J"⟩
abbrev cX11_ended : ByteArray := prog_1_method_17_code
def yX11_ended : MethodName := ⟨RX11, "ended", "(I)I"⟩
abbrev cX11_register : ByteArray := prog_1_method_18_code
def yX11_register : MethodName := ⟨RX11, "register", "(I)J"⟩
abbrev cX11_stack : ByteArray := prog_1_method_19_code
def yX11_stack : MethodName := ⟨RX11, "stack", "(I)I"⟩
abbrev cX11_matches : ByteArray := prog_1_method_20_code
def yX11_matches : MethodName := ⟨RX11, "matches", "()I"⟩
abbrev cX11_count : ByteArray := prog_1_method_21_code
def yX11_count : MethodName := ⟨RX11, "count", "(I)I"⟩
abbrev cX15_init : ByteArray := prog_18_method_1_code
def yX15_init : MethodName := ⟨RX15, "<init>", "(I)V"⟩
abbrev cX16_init : ByteArray := prog_14_method_1_code
def yX16_init : MethodName := ⟨RX16, "<init>", "()V"⟩
abbrev cX16_feed : ByteArray := prog_14_method_2_code
def yX16_feed : MethodName := ⟨RX16, "feed", "(IIIII)I"⟩
abbrev cX16_feedOne : ByteArray := prog_14_method_3_code
def yX16_feedOne : MethodName := ⟨RX16, "feedOne", "(I)V"⟩
abbrev cX16_end : ByteArray := prog_14_method_4_code
def yX16_end : MethodName := ⟨RX16, "end", "(I)I"⟩
abbrev cX16_packet : ByteArray := prog_14_method_5_code
def yX16_packet : MethodName := ⟨RX16, "packet", "()I"⟩
abbrev cX16_isPacket : ByteArray := prog_14_method_6_code
def yX16_isPacket : MethodName := ⟨RX16, "isPacket", "(I)Z"⟩
abbrev cX16_bytes : ByteArray := prog_14_method_7_code
def yX16_bytes : MethodName := ⟨RX16, "bytes", "(II)J"⟩
abbrev cX16_next : ByteArray := prog_14_method_12_code
def yX16_next : MethodName := ⟨RX16, "next", "()V"⟩
abbrev cX16_must : ByteArray := prog_14_method_13_code
def yX16_must : MethodName := ⟨RX16, "must", "(Z)V"⟩
abbrev cX16_is : ByteArray := prog_14_method_14_code
def yX16_is : MethodName := ⟨RX16, "is", "(Ljava/lang/String;)Z"⟩
abbrev cX16_number : ByteArray := prog_14_method_16_code
def yX16_number : MethodName := ⟨RX16, "number", "()J"⟩
abbrev cX16_wantNumber : ByteArray := prog_14_method_17_code
def yX16_wantNumber : MethodName := ⟨RX16, "wantNumber", "(JJ)J"⟩
abbrev cX16_readFilter : ByteArray := prog_14_method_35_code
def yX16_readFilter : MethodName := ⟨RX16, "readFilter", "()LFilterForgeModel$Filter;"⟩
abbrev cX16_readAll : ByteArray := prog_14_method_36_code
def yX16_readAll : MethodName := ⟨RX16, "readAll", "()LFilterForgeModel$Filter;"⟩
abbrev cX16_readOne : ByteArray := prog_14_method_38_code
def yX16_readOne : MethodName := ⟨RX16, "readOne", "()LFilterForgeModel$Filter;"⟩
abbrev cX16_accessOf : ByteArray := prog_14_method_39_code
def yX16_accessOf : MethodName := ⟨RX16, "accessOf", "()I"⟩
abbrev cX16_readRelation : ByteArray := prog_14_method_42_code
def yX16_readRelation : MethodName := ⟨RX16, "readRelation", "()LFilterForgeModel$Filter;"⟩
abbrev cX16_readSum : ByteArray := prog_14_method_43_code
def yX16_readSum : MethodName := ⟨RX16, "readSum", "()LFilterForgeModel$Sum;"⟩
abbrev cX16_readProduct : ByteArray := prog_14_method_45_code
def yX16_readProduct : MethodName := ⟨RX16, "readProduct", "()LFilterForgeModel$Sum;"⟩
abbrev cX16_readAtom : ByteArray := prog_14_method_48_code
def yX16_readAtom : MethodName := ⟨RX16, "readAtom", "(I)LFilterForgeModel$Sum;"⟩
abbrev cX16_matches : ByteArray := prog_14_method_62_code
def yX16_matches : MethodName := ⟨RX16, "matches", "()I"⟩
abbrev cX16_compile : ByteArray := prog_14_method_86_code
def yX16_compile : MethodName := ⟨RX16, "compile", "()I"⟩
abbrev cX16_load : ByteArray := prog_14_method_89_code
def yX16_load : MethodName := ⟨RX16, "load", "()I"⟩
abbrev cX16_instruction : ByteArray := prog_14_method_90_code
def yX16_instruction : MethodName := ⟨RX16, "instruction", "(I)J"⟩
abbrev cX16_run : ByteArray := prog_14_method_105_code
def yX16_run : MethodName := ⟨RX16, "run", "(I)J"⟩
abbrev cX16_ended : ByteArray := prog_14_method_106_code
def yX16_ended : MethodName := ⟨RX16, "ended", "(I)I"⟩
abbrev cX16_register : ByteArray := prog_14_method_107_code
def yX16_register : MethodName := ⟨RX16, "register", "(I)J"⟩
abbrev cX16_stack : ByteArray := prog_14_method_108_code
def yX16_stack : MethodName := ⟨RX16, "stack", "(I)I"⟩
abbrev cX16_verify : ByteArray := prog_14_method_142_code
def yX16_verify : MethodName := ⟨RX16, "verify", "()I"⟩
abbrev cX16_known : ByteArray := prog_14_method_143_code
def yX16_known : MethodName := ⟨RX16, "known", "(III)J"⟩
abbrev cX16_translate : ByteArray := prog_14_method_165_code
def yX16_translate : MethodName := ⟨RX16, "translate", "()I"⟩
abbrev cX16_raw : ByteArray := prog_14_method_167_code
def yX16_raw : MethodName := ⟨RX16, "raw", "()I"⟩
abbrev cX16_word : ByteArray := prog_14_method_168_code
def yX16_word : MethodName := ⟨RX16, "word", "(I)I"⟩
abbrev cX16_emulate : ByteArray := prog_14_method_183_code
def yX16_emulate : MethodName := ⟨RX16, "emulate", "(I)J"⟩
abbrev cX16_count : ByteArray := prog_14_method_184_code
def yX16_count : MethodName := ⟨RX16, "count", "(I)I"⟩
abbrev cL_law : ByteArray := code
def yL_law : MethodName := ⟨RL, "law", "([I)Z"⟩
theorem mhX0_init : (yX0_init.cls ≠ "java/lang/invoke/MethodHandle" ∧ yX0_init.cls ≠ "java/lang/invoke/VarHandle" ∧ (parseMethodDescriptor yX0_init.desc).map (fun d => d.parameters.length) = some 2) := by decide +kernel
theorem mhX1_init : (yX1_init.cls ≠ "java/lang/invoke/MethodHandle" ∧ yX1_init.cls ≠ "java/lang/invoke/VarHandle" ∧ (parseMethodDescriptor yX1_init.desc).map (fun d => d.parameters.length) = some 0) := by decide +kernel
theorem mhX2_init : (yX2_init.cls ≠ "java/lang/invoke/MethodHandle" ∧ yX2_init.cls ≠ "java/lang/invoke/VarHandle" ∧ (parseMethodDescriptor yX2_init.desc).map (fun d => d.parameters.length) = some 0) := by decide +kernel
theorem mhX2_clear : (yX2_clear.cls ≠ "java/lang/invoke/MethodHandle" ∧ yX2_clear.cls ≠ "java/lang/invoke/VarHandle" ∧ (parseMethodDescriptor yX2_clear.desc).map (fun d => d.parameters.length) = some 0) := by decide +kernel
theorem mhX2_newLabel : (yX2_newLabel.cls ≠ "java/lang/invoke/MethodHandle" ∧ yX2_newLabel.cls ≠ "java/lang/invoke/VarHandle" ∧ (parseMethodDescriptor yX2_newLabel.desc).map (fun d => d.parameters.length) = some 0) := by decide +kernel
theorem mhX2_joinLabel : (yX2_joinLabel.cls ≠ "java/lang/invoke/MethodHandle" ∧ yX2_joinLabel.cls ≠ "java/lang/invoke/VarHandle" ∧ (parseMethodDescriptor yX2_joinLabel.desc).map (fun d => d.parameters.length) = some 2) := by decide +kernel
theorem mhX3_init : (yX3_init.cls ≠ "java/lang/invoke/MethodHandle" ∧ yX3_init.cls ≠ "java/lang/invoke/VarHandle" ∧ (parseMethodDescriptor yX3_init.desc).map (fun d => d.parameters.length) = some 1) := by decide +kernel
theorem mhX3_look : (yX3_look.cls ≠ "java/lang/invoke/MethodHandle" ∧ yX3_look.cls ≠ "java/lang/invoke/VarHandle" ∧ (parseMethodDescriptor yX3_look.desc).map (fun d => d.parameters.length) = some 1) := by decide +kernel
theorem mhX3_tell : (yX3_tell.cls ≠ "java/lang/invoke/MethodHandle" ∧ yX3_tell.cls ≠ "java/lang/invoke/VarHandle" ∧ (parseMethodDescriptor yX3_tell.desc).map (fun d => d.parameters.length) = some 3) := by decide +kernel
theorem mhX4_init : (yX4_init.cls ≠ "java/lang/invoke/MethodHandle" ∧ yX4_init.cls ≠ "java/lang/invoke/VarHandle" ∧ (parseMethodDescriptor yX4_init.desc).map (fun d => d.parameters.length) = some 1) := by decide +kernel
theorem mhX5_init : (yX5_init.cls ≠ "java/lang/invoke/MethodHandle" ∧ yX5_init.cls ≠ "java/lang/invoke/VarHandle" ∧ (parseMethodDescriptor yX5_init.desc).map (fun d => d.parameters.length) = some 0) := by decide +kernel
theorem mhX5_takeTape : (yX5_takeTape.cls ≠ "java/lang/invoke/MethodHandle" ∧ yX5_takeTape.cls ≠ "java/lang/invoke/VarHandle" ∧ (parseMethodDescriptor yX5_takeTape.desc).map (fun d => d.parameters.length) = some 1) := by decide +kernel
theorem mhX5_at : (yX5_at.cls ≠ "java/lang/invoke/MethodHandle" ∧ yX5_at.cls ≠ "java/lang/invoke/VarHandle" ∧ (parseMethodDescriptor yX5_at.desc).map (fun d => d.parameters.length) = some 1) := by decide +kernel
theorem mhX6_init : (yX6_init.cls ≠ "java/lang/invoke/MethodHandle" ∧ yX6_init.cls ≠ "java/lang/invoke/VarHandle" ∧ (parseMethodDescriptor yX6_init.desc).map (fun d => d.parameters.length) = some 0) := by decide +kernel
theorem mhX6_add : (yX6_add.cls ≠ "java/lang/invoke/MethodHandle" ∧ yX6_add.cls ≠ "java/lang/invoke/VarHandle" ∧ (parseMethodDescriptor yX6_add.desc).map (fun d => d.parameters.length) = some 1) := by decide +kernel
theorem mhX6_lengthOf : (yX6_lengthOf.cls ≠ "java/lang/invoke/MethodHandle" ∧ yX6_lengthOf.cls ≠ "java/lang/invoke/VarHandle" ∧ (parseMethodDescriptor yX6_lengthOf.desc).map (fun d => d.parameters.length) = some 1) := by decide +kernel
theorem mhX6_at : (yX6_at.cls ≠ "java/lang/invoke/MethodHandle" ∧ yX6_at.cls ≠ "java/lang/invoke/VarHandle" ∧ (parseMethodDescriptor yX6_at.desc).map (fun d => d.parameters.length) = some 2) := by decide +kernel
theorem mhX6_eightFrom : (yX6_eightFrom.cls ≠ "java/lang/invoke/MethodHandle" ∧ yX6_eightFrom.cls ≠ "java/lang/invoke/VarHandle" ∧ (parseMethodDescriptor yX6_eightFrom.desc).map (fun d => d.parameters.length) = some 2) := by decide +kernel
theorem mhX7_init : (yX7_init.cls ≠ "java/lang/invoke/MethodHandle" ∧ yX7_init.cls ≠ "java/lang/invoke/VarHandle" ∧ (parseMethodDescriptor yX7_init.desc).map (fun d => d.parameters.length) = some 0) := by decide +kernel
theorem mhX7_takeTape : (yX7_takeTape.cls ≠ "java/lang/invoke/MethodHandle" ∧ yX7_takeTape.cls ≠ "java/lang/invoke/VarHandle" ∧ (parseMethodDescriptor yX7_takeTape.desc).map (fun d => d.parameters.length) = some 1) := by decide +kernel
theorem mhX7_at : (yX7_at.cls ≠ "java/lang/invoke/MethodHandle" ∧ yX7_at.cls ≠ "java/lang/invoke/VarHandle" ∧ (parseMethodDescriptor yX7_at.desc).map (fun d => d.parameters.length) = some 1) := by decide +kernel
theorem mhX8_init : (yX8_init.cls ≠ "java/lang/invoke/MethodHandle" ∧ yX8_init.cls ≠ "java/lang/invoke/VarHandle" ∧ (parseMethodDescriptor yX8_init.desc).map (fun d => d.parameters.length) = some 2) := by decide +kernel
theorem mhX8_begin : (yX8_begin.cls ≠ "java/lang/invoke/MethodHandle" ∧ yX8_begin.cls ≠ "java/lang/invoke/VarHandle" ∧ (parseMethodDescriptor yX8_begin.desc).map (fun d => d.parameters.length) = some 1) := by decide +kernel
theorem mhX8_wrongPlace : (yX8_wrongPlace.cls ≠ "java/lang/invoke/MethodHandle" ∧ yX8_wrongPlace.cls ≠ "java/lang/invoke/VarHandle" ∧ (parseMethodDescriptor yX8_wrongPlace.desc).map (fun d => d.parameters.length) = some 0) := by decide +kernel
theorem mhX8_fail : (yX8_fail.cls ≠ "java/lang/invoke/MethodHandle" ∧ yX8_fail.cls ≠ "java/lang/invoke/VarHandle" ∧ (parseMethodDescriptor yX8_fail.desc).map (fun d => d.parameters.length) = some 0) := by decide +kernel
theorem mhX8_next : (yX8_next.cls ≠ "java/lang/invoke/MethodHandle" ∧ yX8_next.cls ≠ "java/lang/invoke/VarHandle" ∧ (parseMethodDescriptor yX8_next.desc).map (fun d => d.parameters.length) = some 0) := by decide +kernel
theorem mhX8_behindBlanks : (yX8_behindBlanks.cls ≠ "java/lang/invoke/MethodHandle" ∧ yX8_behindBlanks.cls ≠ "java/lang/invoke/VarHandle" ∧ (parseMethodDescriptor yX8_behindBlanks.desc).map (fun d => d.parameters.length) = some 1) := by decide +kernel
theorem mhX8_isWord : (yX8_isWord.cls ≠ "java/lang/invoke/MethodHandle" ∧ yX8_isWord.cls ≠ "java/lang/invoke/VarHandle" ∧ (parseMethodDescriptor yX8_isWord.desc).map (fun d => d.parameters.length) = some 1) := by decide +kernel
theorem mhX8_protocol : (yX8_protocol.cls ≠ "java/lang/invoke/MethodHandle" ∧ yX8_protocol.cls ≠ "java/lang/invoke/VarHandle" ∧ (parseMethodDescriptor yX8_protocol.desc).map (fun d => d.parameters.length) = some 0) := by decide +kernel
theorem mhX8_number : (yX8_number.cls ≠ "java/lang/invoke/MethodHandle" ∧ yX8_number.cls ≠ "java/lang/invoke/VarHandle" ∧ (parseMethodDescriptor yX8_number.desc).map (fun d => d.parameters.length) = some 0) := by decide +kernel
theorem mhX8_readFilter : (yX8_readFilter.cls ≠ "java/lang/invoke/MethodHandle" ∧ yX8_readFilter.cls ≠ "java/lang/invoke/VarHandle" ∧ (parseMethodDescriptor yX8_readFilter.desc).map (fun d => d.parameters.length) = some 3) := by decide +kernel
theorem mhX8_readRow : (yX8_readRow.cls ≠ "java/lang/invoke/MethodHandle" ∧ yX8_readRow.cls ≠ "java/lang/invoke/VarHandle" ∧ (parseMethodDescriptor yX8_readRow.desc).map (fun d => d.parameters.length) = some 3) := by decide +kernel
theorem mhX8_readOne : (yX8_readOne.cls ≠ "java/lang/invoke/MethodHandle" ∧ yX8_readOne.cls ≠ "java/lang/invoke/VarHandle" ∧ (parseMethodDescriptor yX8_readOne.desc).map (fun d => d.parameters.length) = some 3) := by decide +kernel
theorem mhX8_beginsRelation : (yX8_beginsRelation.cls ≠ "java/lang/invoke/MethodHandle" ∧ yX8_beginsRelation.cls ≠ "java/lang/invoke/VarHandle" ∧ (parseMethodDescriptor yX8_beginsRelation.desc).map (fun d => d.parameters.length) = some 0) := by decide +kernel
theorem mhX8_readSided : (yX8_readSided.cls ≠ "java/lang/invoke/MethodHandle" ∧ yX8_readSided.cls ≠ "java/lang/invoke/VarHandle" ∧ (parseMethodDescriptor yX8_readSided.desc).map (fun d => d.parameters.length) = some 2) := by decide +kernel
theorem mhX8_readLength : (yX8_readLength.cls ≠ "java/lang/invoke/MethodHandle" ∧ yX8_readLength.cls ≠ "java/lang/invoke/VarHandle" ∧ (parseMethodDescriptor yX8_readLength.desc).map (fun d => d.parameters.length) = some 2) := by decide +kernel
theorem mhX9_init : (yX9_init.cls ≠ "java/lang/invoke/MethodHandle" ∧ yX9_init.cls ≠ "java/lang/invoke/VarHandle" ∧ (parseMethodDescriptor yX9_init.desc).map (fun d => d.parameters.length) = some 0) := by decide +kernel
theorem mhX9_hasRoom : (yX9_hasRoom.cls ≠ "java/lang/invoke/MethodHandle" ∧ yX9_hasRoom.cls ≠ "java/lang/invoke/VarHandle" ∧ (parseMethodDescriptor yX9_hasRoom.desc).map (fun d => d.parameters.length) = some 1) := by decide +kernel
theorem mhX9_put : (yX9_put.cls ≠ "java/lang/invoke/MethodHandle" ∧ yX9_put.cls ≠ "java/lang/invoke/VarHandle" ∧ (parseMethodDescriptor yX9_put.desc).map (fun d => d.parameters.length) = some 1) := by decide +kernel
theorem mhX9_at : (yX9_at.cls ≠ "java/lang/invoke/MethodHandle" ∧ yX9_at.cls ≠ "java/lang/invoke/VarHandle" ∧ (parseMethodDescriptor yX9_at.desc).map (fun d => d.parameters.length) = some 1) := by decide +kernel
theorem mhX10_init : (yX10_init.cls ≠ "java/lang/invoke/MethodHandle" ∧ yX10_init.cls ≠ "java/lang/invoke/VarHandle" ∧ (parseMethodDescriptor yX10_init.desc).map (fun d => d.parameters.length) = some 2) := by decide +kernel
theorem mhX11_init : (yX11_init.cls ≠ "java/lang/invoke/MethodHandle" ∧ yX11_init.cls ≠ "java/lang/invoke/VarHandle" ∧ (parseMethodDescriptor yX11_init.desc).map (fun d => d.parameters.length) = some 0) := by decide +kernel
theorem mhX11_feed : (yX11_feed.cls ≠ "java/lang/invoke/MethodHandle" ∧ yX11_feed.cls ≠ "java/lang/invoke/VarHandle" ∧ (parseMethodDescriptor yX11_feed.desc).map (fun d => d.parameters.length) = some 5) := by decide +kernel
theorem mhX11_end : (yX11_end.cls ≠ "java/lang/invoke/MethodHandle" ∧ yX11_end.cls ≠ "java/lang/invoke/VarHandle" ∧ (parseMethodDescriptor yX11_end.desc).map (fun d => d.parameters.length) = some 1) := by decide +kernel
theorem mhX11_packet : (yX11_packet.cls ≠ "java/lang/invoke/MethodHandle" ∧ yX11_packet.cls ≠ "java/lang/invoke/VarHandle" ∧ (parseMethodDescriptor yX11_packet.desc).map (fun d => d.parameters.length) = some 0) := by decide +kernel
theorem mhX11_bytes : (yX11_bytes.cls ≠ "java/lang/invoke/MethodHandle" ∧ yX11_bytes.cls ≠ "java/lang/invoke/VarHandle" ∧ (parseMethodDescriptor yX11_bytes.desc).map (fun d => d.parameters.length) = some 2) := by decide +kernel
theorem mhX11_compile : (yX11_compile.cls ≠ "java/lang/invoke/MethodHandle" ∧ yX11_compile.cls ≠ "java/lang/invoke/VarHandle" ∧ (parseMethodDescriptor yX11_compile.desc).map (fun d => d.parameters.length) = some 0) := by decide +kernel
theorem mhX11_load : (yX11_load.cls ≠ "java/lang/invoke/MethodHandle" ∧ yX11_load.cls ≠ "java/lang/invoke/VarHandle" ∧ (parseMethodDescriptor yX11_load.desc).map (fun d => d.parameters.length) = some 0) := by decide +kernel
theorem mhX11_instruction : (yX11_instruction.cls ≠ "java/lang/invoke/MethodHandle" ∧ yX11_instruction.cls ≠ "java/lang/invoke/VarHandle" ∧ (parseMethodDescriptor yX11_instruction.desc).map (fun d => d.parameters.length) = some 1) := by decide +kernel
theorem mhX11_verify : (yX11_verify.cls ≠ "java/lang/invoke/MethodHandle" ∧ yX11_verify.cls ≠ "java/lang/invoke/VarHandle" ∧ (parseMethodDescriptor yX11_verify.desc).map (fun d => d.parameters.length) = some 0) := by decide +kernel
theorem mhX11_known : (yX11_known.cls ≠ "java/lang/invoke/MethodHandle" ∧ yX11_known.cls ≠ "java/lang/invoke/VarHandle" ∧ (parseMethodDescriptor yX11_known.desc).map (fun d => d.parameters.length) = some 3) := by decide +kernel
theorem mhX11_run : (yX11_run.cls ≠ "java/lang/invoke/MethodHandle" ∧ yX11_run.cls ≠ "java/lang/invoke/VarHandle" ∧ (parseMethodDescriptor yX11_run.desc).map (fun d => d.parameters.length) = some 1) := by decide +kernel
theorem mhX11_translate : (yX11_translate.cls ≠ "java/lang/invoke/MethodHandle" ∧ yX11_translate.cls ≠ "java/lang/invoke/VarHandle" ∧ (parseMethodDescriptor yX11_translate.desc).map (fun d => d.parameters.length) = some 0) := by decide +kernel
theorem mhX11_raw : (yX11_raw.cls ≠ "java/lang/invoke/MethodHandle" ∧ yX11_raw.cls ≠ "java/lang/invoke/VarHandle" ∧ (parseMethodDescriptor yX11_raw.desc).map (fun d => d.parameters.length) = some 0) := by decide +kernel
theorem mhX11_word : (yX11_word.cls ≠ "java/lang/invoke/MethodHandle" ∧ yX11_word.cls ≠ "java/lang/invoke/VarHandle" ∧ (parseMethodDescriptor yX11_word.desc).map (fun d => d.parameters.length) = some 1) := by decide +kernel
theorem mhX11_emulate : (yX11_emulate.cls ≠ "java/lang/invoke/MethodHandle" ∧ yX11_emulate.cls ≠ "java/lang/invoke/VarHandle" ∧ (parseMethodDescriptor yX11_emulate.desc).map (fun d => d.parameters.length) = some 1) := by decide +kernel
theorem mhX11_ended : (yX11_ended.cls ≠ "java/lang/invoke/MethodHandle" ∧ yX11_ended.cls ≠ "java/lang/invoke/VarHandle" ∧ (parseMethodDescriptor yX11_ended.desc).map (fun d => d.parameters.length) = some 1) := by decide +kernel
theorem mhX11_register : (yX11_register.cls ≠ "java/lang/invoke/MethodHandle" ∧ yX11_register.cls ≠ "java/lang/invoke/VarHandle" ∧ (parseMethodDescriptor yX11_register.desc).map (fun d => d.parameters.length) = some 1) := by decide +kernel
theorem mhX11_stack : (yX11_stack.cls ≠ "java/lang/invoke/MethodHandle" ∧ yX11_stack.cls ≠ "java/lang/invoke/VarHandle" ∧ (parseMethodDescriptor yX11_stack.desc).map (fun d => d.parameters.length) = some 1) := by decide +kernel
theorem mhX11_matches : (yX11_matches.cls ≠ "java/lang/invoke/MethodHandle" ∧ yX11_matches.cls ≠ "java/lang/invoke/VarHandle" ∧ (parseMethodDescriptor yX11_matches.desc).map (fun d => d.parameters.length) = some 0) := by decide +kernel
theorem mhX11_count : (yX11_count.cls ≠ "java/lang/invoke/MethodHandle" ∧ yX11_count.cls ≠ "java/lang/invoke/VarHandle" ∧ (parseMethodDescriptor yX11_count.desc).map (fun d => d.parameters.length) = some 1) := by decide +kernel
theorem mhX15_init : (yX15_init.cls ≠ "java/lang/invoke/MethodHandle" ∧ yX15_init.cls ≠ "java/lang/invoke/VarHandle" ∧ (parseMethodDescriptor yX15_init.desc).map (fun d => d.parameters.length) = some 1) := by decide +kernel
theorem mhX16_init : (yX16_init.cls ≠ "java/lang/invoke/MethodHandle" ∧ yX16_init.cls ≠ "java/lang/invoke/VarHandle" ∧ (parseMethodDescriptor yX16_init.desc).map (fun d => d.parameters.length) = some 0) := by decide +kernel
theorem mhX16_feed : (yX16_feed.cls ≠ "java/lang/invoke/MethodHandle" ∧ yX16_feed.cls ≠ "java/lang/invoke/VarHandle" ∧ (parseMethodDescriptor yX16_feed.desc).map (fun d => d.parameters.length) = some 5) := by decide +kernel
theorem mhX16_feedOne : (yX16_feedOne.cls ≠ "java/lang/invoke/MethodHandle" ∧ yX16_feedOne.cls ≠ "java/lang/invoke/VarHandle" ∧ (parseMethodDescriptor yX16_feedOne.desc).map (fun d => d.parameters.length) = some 1) := by decide +kernel
theorem mhX16_end : (yX16_end.cls ≠ "java/lang/invoke/MethodHandle" ∧ yX16_end.cls ≠ "java/lang/invoke/VarHandle" ∧ (parseMethodDescriptor yX16_end.desc).map (fun d => d.parameters.length) = some 1) := by decide +kernel
theorem mhX16_packet : (yX16_packet.cls ≠ "java/lang/invoke/MethodHandle" ∧ yX16_packet.cls ≠ "java/lang/invoke/VarHandle" ∧ (parseMethodDescriptor yX16_packet.desc).map (fun d => d.parameters.length) = some 0) := by decide +kernel
theorem mhX16_isPacket : (yX16_isPacket.cls ≠ "java/lang/invoke/MethodHandle" ∧ yX16_isPacket.cls ≠ "java/lang/invoke/VarHandle" ∧ (parseMethodDescriptor yX16_isPacket.desc).map (fun d => d.parameters.length) = some 1) := by decide +kernel
theorem mhX16_bytes : (yX16_bytes.cls ≠ "java/lang/invoke/MethodHandle" ∧ yX16_bytes.cls ≠ "java/lang/invoke/VarHandle" ∧ (parseMethodDescriptor yX16_bytes.desc).map (fun d => d.parameters.length) = some 2) := by decide +kernel
theorem mhX16_next : (yX16_next.cls ≠ "java/lang/invoke/MethodHandle" ∧ yX16_next.cls ≠ "java/lang/invoke/VarHandle" ∧ (parseMethodDescriptor yX16_next.desc).map (fun d => d.parameters.length) = some 0) := by decide +kernel
theorem mhX16_must : (yX16_must.cls ≠ "java/lang/invoke/MethodHandle" ∧ yX16_must.cls ≠ "java/lang/invoke/VarHandle" ∧ (parseMethodDescriptor yX16_must.desc).map (fun d => d.parameters.length) = some 1) := by decide +kernel
theorem mhX16_is : (yX16_is.cls ≠ "java/lang/invoke/MethodHandle" ∧ yX16_is.cls ≠ "java/lang/invoke/VarHandle" ∧ (parseMethodDescriptor yX16_is.desc).map (fun d => d.parameters.length) = some 1) := by decide +kernel
theorem mhX16_number : (yX16_number.cls ≠ "java/lang/invoke/MethodHandle" ∧ yX16_number.cls ≠ "java/lang/invoke/VarHandle" ∧ (parseMethodDescriptor yX16_number.desc).map (fun d => d.parameters.length) = some 0) := by decide +kernel
theorem mhX16_wantNumber : (yX16_wantNumber.cls ≠ "java/lang/invoke/MethodHandle" ∧ yX16_wantNumber.cls ≠ "java/lang/invoke/VarHandle" ∧ (parseMethodDescriptor yX16_wantNumber.desc).map (fun d => d.parameters.length) = some 2) := by decide +kernel
theorem mhX16_readFilter : (yX16_readFilter.cls ≠ "java/lang/invoke/MethodHandle" ∧ yX16_readFilter.cls ≠ "java/lang/invoke/VarHandle" ∧ (parseMethodDescriptor yX16_readFilter.desc).map (fun d => d.parameters.length) = some 0) := by decide +kernel
theorem mhX16_readAll : (yX16_readAll.cls ≠ "java/lang/invoke/MethodHandle" ∧ yX16_readAll.cls ≠ "java/lang/invoke/VarHandle" ∧ (parseMethodDescriptor yX16_readAll.desc).map (fun d => d.parameters.length) = some 0) := by decide +kernel
theorem mhX16_readOne : (yX16_readOne.cls ≠ "java/lang/invoke/MethodHandle" ∧ yX16_readOne.cls ≠ "java/lang/invoke/VarHandle" ∧ (parseMethodDescriptor yX16_readOne.desc).map (fun d => d.parameters.length) = some 0) := by decide +kernel
theorem mhX16_accessOf : (yX16_accessOf.cls ≠ "java/lang/invoke/MethodHandle" ∧ yX16_accessOf.cls ≠ "java/lang/invoke/VarHandle" ∧ (parseMethodDescriptor yX16_accessOf.desc).map (fun d => d.parameters.length) = some 0) := by decide +kernel
theorem mhX16_readRelation : (yX16_readRelation.cls ≠ "java/lang/invoke/MethodHandle" ∧ yX16_readRelation.cls ≠ "java/lang/invoke/VarHandle" ∧ (parseMethodDescriptor yX16_readRelation.desc).map (fun d => d.parameters.length) = some 0) := by decide +kernel
theorem mhX16_readSum : (yX16_readSum.cls ≠ "java/lang/invoke/MethodHandle" ∧ yX16_readSum.cls ≠ "java/lang/invoke/VarHandle" ∧ (parseMethodDescriptor yX16_readSum.desc).map (fun d => d.parameters.length) = some 0) := by decide +kernel
theorem mhX16_readProduct : (yX16_readProduct.cls ≠ "java/lang/invoke/MethodHandle" ∧ yX16_readProduct.cls ≠ "java/lang/invoke/VarHandle" ∧ (parseMethodDescriptor yX16_readProduct.desc).map (fun d => d.parameters.length) = some 0) := by decide +kernel
theorem mhX16_readAtom : (yX16_readAtom.cls ≠ "java/lang/invoke/MethodHandle" ∧ yX16_readAtom.cls ≠ "java/lang/invoke/VarHandle" ∧ (parseMethodDescriptor yX16_readAtom.desc).map (fun d => d.parameters.length) = some 1) := by decide +kernel
theorem mhX16_matches : (yX16_matches.cls ≠ "java/lang/invoke/MethodHandle" ∧ yX16_matches.cls ≠ "java/lang/invoke/VarHandle" ∧ (parseMethodDescriptor yX16_matches.desc).map (fun d => d.parameters.length) = some 0) := by decide +kernel
theorem mhX16_compile : (yX16_compile.cls ≠ "java/lang/invoke/MethodHandle" ∧ yX16_compile.cls ≠ "java/lang/invoke/VarHandle" ∧ (parseMethodDescriptor yX16_compile.desc).map (fun d => d.parameters.length) = some 0) := by decide +kernel
theorem mhX16_load : (yX16_load.cls ≠ "java/lang/invoke/MethodHandle" ∧ yX16_load.cls ≠ "java/lang/invoke/VarHandle" ∧ (parseMethodDescriptor yX16_load.desc).map (fun d => d.parameters.length) = some 0) := by decide +kernel
theorem mhX16_instruction : (yX16_instruction.cls ≠ "java/lang/invoke/MethodHandle" ∧ yX16_instruction.cls ≠ "java/lang/invoke/VarHandle" ∧ (parseMethodDescriptor yX16_instruction.desc).map (fun d => d.parameters.length) = some 1) := by decide +kernel
theorem mhX16_run : (yX16_run.cls ≠ "java/lang/invoke/MethodHandle" ∧ yX16_run.cls ≠ "java/lang/invoke/VarHandle" ∧ (parseMethodDescriptor yX16_run.desc).map (fun d => d.parameters.length) = some 1) := by decide +kernel
theorem mhX16_ended : (yX16_ended.cls ≠ "java/lang/invoke/MethodHandle" ∧ yX16_ended.cls ≠ "java/lang/invoke/VarHandle" ∧ (parseMethodDescriptor yX16_ended.desc).map (fun d => d.parameters.length) = some 1) := by decide +kernel
theorem mhX16_register : (yX16_register.cls ≠ "java/lang/invoke/MethodHandle" ∧ yX16_register.cls ≠ "java/lang/invoke/VarHandle" ∧ (parseMethodDescriptor yX16_register.desc).map (fun d => d.parameters.length) = some 1) := by decide +kernel
theorem mhX16_stack : (yX16_stack.cls ≠ "java/lang/invoke/MethodHandle" ∧ yX16_stack.cls ≠ "java/lang/invoke/VarHandle" ∧ (parseMethodDescriptor yX16_stack.desc).map (fun d => d.parameters.length) = some 1) := by decide +kernel
theorem mhX16_verify : (yX16_verify.cls ≠ "java/lang/invoke/MethodHandle" ∧ yX16_verify.cls ≠ "java/lang/invoke/VarHandle" ∧ (parseMethodDescriptor yX16_verify.desc).map (fun d => d.parameters.length) = some 0) := by decide +kernel
theorem mhX16_known : (yX16_known.cls ≠ "java/lang/invoke/MethodHandle" ∧ yX16_known.cls ≠ "java/lang/invoke/VarHandle" ∧ (parseMethodDescriptor yX16_known.desc).map (fun d => d.parameters.length) = some 3) := by decide +kernel
theorem mhX16_translate : (yX16_translate.cls ≠ "java/lang/invoke/MethodHandle" ∧ yX16_translate.cls ≠ "java/lang/invoke/VarHandle" ∧ (parseMethodDescriptor yX16_translate.desc).map (fun d => d.parameters.length) = some 0) := by decide +kernel
theorem mhX16_raw : (yX16_raw.cls ≠ "java/lang/invoke/MethodHandle" ∧ yX16_raw.cls ≠ "java/lang/invoke/VarHandle" ∧ (parseMethodDescriptor yX16_raw.desc).map (fun d => d.parameters.length) = some 0) := by decide +kernel
theorem mhX16_word : (yX16_word.cls ≠ "java/lang/invoke/MethodHandle" ∧ yX16_word.cls ≠ "java/lang/invoke/VarHandle" ∧ (parseMethodDescriptor yX16_word.desc).map (fun d => d.parameters.length) = some 1) := by decide +kernel
theorem mhX16_emulate : (yX16_emulate.cls ≠ "java/lang/invoke/MethodHandle" ∧ yX16_emulate.cls ≠ "java/lang/invoke/VarHandle" ∧ (parseMethodDescriptor yX16_emulate.desc).map (fun d => d.parameters.length) = some 1) := by decide +kernel
theorem mhX16_count : (yX16_count.cls ≠ "java/lang/invoke/MethodHandle" ∧ yX16_count.cls ≠ "java/lang/invoke/VarHandle" ∧ (parseMethodDescriptor yX16_count.desc).map (fun d => d.parameters.length) = some 1) := by decide +kernel
abbrev vwCl : List vw_C := [(RX0, TX0, 5), (RX1, TX1, 5), (RX2, TX2, 18), (RX3, TX3, 14), (RX4, TX4, 10), (RX5, TX5, 2), (RX6, TX6, 3), (RX7, TX7, 2), (RX8, TX8, 6), (RX9, TX9, 2), (RX10, TX10, 5), (RX11, TX11, 14), (RX12, TX12, 7), (RX13, TX13, 6), (RX14, TX14, 5), (RX15, TX15, 7), (RX16, TX16, 78)]
