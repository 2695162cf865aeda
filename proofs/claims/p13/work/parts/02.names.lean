def RX0 : String := "FilterForge$Coder"
def TX0 : u_T := fun k => match k with
  | 0 => ("FilterForge$Coder", "starts", "[I", true)
  | 1 => ("FilterForge$Coder", "goals", "[I", true)
  | 2 => ("FilterForge$Coder", "filter", "LFilterForge$Filter;", false)
  | 3 => ("FilterForge$Coder", "made", "LFilterForge$Program;", false)
  | _ => ("FilterForge$Coder", "length", "I", false)
def tyX0 : Nat → FieldType := fun k => match k with
  | 0 => .array .int
  | 1 => .array .int
  | 2 => .object "FilterForge$Filter"
  | 3 => .object "FilterForge$Program"
  | _ => .int
abbrev wsX00 : List Cond := u_ws RX0 TX0 5
theorem nmX0 : ∀ a, a < 5 → ∀ b, b < 5 → a ≠ b → (TX0 a).2.1 ≠ (TX0 b).2.1 := by decide +kernel
theorem tyX0_ok : ∀ k, k < 5 → parseFieldDescriptor (TX0 k).2.2.1 = some (tyX0 k) := by decide +kernel
def RX1 : String := "FilterForge$Fact"
def TX1 : u_T := fun k => match k with
  | 0 => ("FilterForge$Fact", "kind", "I", false)
  | 1 => ("FilterForge$Fact", "low", "J", false)
  | 2 => ("FilterForge$Fact", "high", "J", false)
  | 3 => ("FilterForge$Fact", "sure", "J", false)
  | _ => ("FilterForge$Fact", "ones", "J", false)
def tyX1 : Nat → FieldType := fun k => match k with
  | 0 => .int
  | 1 => .long
  | 2 => .long
  | 3 => .long
  | _ => .long
abbrev wsX10 : List Cond := u_ws RX1 TX1 5
theorem nmX1 : ∀ a, a < 5 → ∀ b, b < 5 → a ≠ b → (TX1 a).2.1 ≠ (TX1 b).2.1 := by decide +kernel
theorem tyX1_ok : ∀ k, k < 5 → parseFieldDescriptor (TX1 k).2.2.1 = some (tyX1 k) := by decide +kernel
def RX2 : String := "FilterForge$Filter"
def TX2 : u_T := fun k => match k with
  | 0 => ("FilterForge$Filter", "kinds", "[I", true)
  | 1 => ("FilterForge$Filter", "hows", "[I", true)
  | 2 => ("FilterForge$Filter", "numbers", "[I", true)
  | 3 => ("FilterForge$Filter", "itemCount", "I", false)
  | 4 => ("FilterForge$Filter", "from", "[I", true)
  | 5 => ("FilterForge$Filter", "middle", "[I", true)
  | 6 => ("FilterForge$Filter", "until", "[I", true)
  | 7 => ("FilterForge$Filter", "ops", "[I", true)
  | 8 => ("FilterForge$Filter", "yes", "[I", true)
  | 9 => ("FilterForge$Filter", "no", "[I", true)
  | 10 => ("FilterForge$Filter", "kept", "[Z", true)
  | 11 => ("FilterForge$Filter", "blockCount", "I", false)
  | 12 => ("FilterForge$Filter", "leftOut", "I", false)
  | 13 => ("FilterForge$Filter", "labels", "[I", true)
  | 14 => ("FilterForge$Filter", "labelCount", "I", false)
  | 15 => ("FilterForge$Filter", "asked", "[I", true)
  | 16 => ("FilterForge$Filter", "askedCount", "I", false)
  | _ => ("FilterForge$Filter", "pushed", "[J", true)
def tyX2 : Nat → FieldType := fun k => match k with
  | 0 => .array .int
  | 1 => .array .int
  | 2 => .array .int
  | 3 => .int
  | 4 => .array .int
  | 5 => .array .int
  | 6 => .array .int
  | 7 => .array .int
  | 8 => .array .int
  | 9 => .array .int
  | 10 => .array .boolean
  | 11 => .int
  | 12 => .int
  | 13 => .array .int
  | 14 => .int
  | 15 => .array .int
  | 16 => .int
  | _ => .array .long
abbrev wsX20 : List Cond := u_ws RX2 TX2 18
theorem nmX2 : ∀ a, a < 18 → ∀ b, b < 18 → a ≠ b → (TX2 a).2.1 ≠ (TX2 b).2.1 := by decide +kernel
theorem tyX2_ok : ∀ k, k < 18 → parseFieldDescriptor (TX2 k).2.2.1 = some (tyX2 k) := by decide +kernel
def RX3 : String := "FilterForge$Inspector"
def TX3 : u_T := fun k => match k with
  | 0 => ("FilterForge$Inspector", "kinds", "[B", false)
  | 1 => ("FilterForge$Inspector", "lows", "[J", false)
  | 2 => ("FilterForge$Inspector", "highs", "[J", false)
  | 3 => ("FilterForge$Inspector", "sures", "[J", false)
  | 4 => ("FilterForge$Inspector", "oneBits", "[J", false)
  | 5 => ("FilterForge$Inspector", "sets", "[J", false)
  | 6 => ("FilterForge$Inspector", "reached", "[Z", false)
  | 7 => ("FilterForge$Inspector", "now", "[LFilterForge$Fact;", true)
  | 8 => ("FilterForge$Inspector", "side", "LFilterForge$Fact;", true)
  | 9 => ("FilterForge$Inspector", "place", "LFilterForge$Fact;", true)
  | 10 => ("FilterForge$Inspector", "former", "LFilterForge$Fact;", true)
  | 11 => ("FilterForge$Inspector", "nowSet", "J", false)
  | 12 => ("FilterForge$Inspector", "program", "LFilterForge$Program;", false)
  | _ => ("FilterForge$Inspector", "lastTold", "I", false)
def tyX3 : Nat → FieldType := fun k => match k with
  | 0 => .array .byte
  | 1 => .array .long
  | 2 => .array .long
  | 3 => .array .long
  | 4 => .array .long
  | 5 => .array .long
  | 6 => .array .boolean
  | 7 => .array (.object "FilterForge$Fact")
  | 8 => .object "FilterForge$Fact"
  | 9 => .object "FilterForge$Fact"
  | 10 => .object "FilterForge$Fact"
  | 11 => .long
  | 12 => .object "FilterForge$Program"
  | _ => .int
abbrev wsX30 : List Cond := u_ws RX3 TX3 14
theorem nmX3 : ∀ a, a < 14 → ∀ b, b < 14 → a ≠ b → (TX3 a).2.1 ≠ (TX3 b).2.1 := by decide +kernel
theorem tyX3_ok : ∀ k, k < 14 → parseFieldDescriptor (TX3 k).2.2.1 = some (tyX3 k) := by decide +kernel
def RX4 : String := "FilterForge$Machine"
def TX4 : u_T := fun k => match k with
  | 0 => ("FilterForge$Machine", "registers", "[J", true)
  | 1 => ("FilterForge$Machine", "stackRow", "[B", true)
  | 2 => ("FilterForge$Machine", "packets", "LFilterForge$Packets;", true)
  | 3 => ("FilterForge$Machine", "packet", "I", false)
  | 4 => ("FilterForge$Machine", "shown", "I", false)
  | 5 => ("FilterForge$Machine", "trap", "I", false)
  | 6 => ("FilterForge$Machine", "steps", "I", false)
  | 7 => ("FilterForge$Machine", "place", "I", false)
  | 8 => ("FilterForge$Machine", "next", "J", false)
  | _ => ("FilterForge$Machine", "over", "Z", false)
def tyX4 : Nat → FieldType := fun k => match k with
  | 0 => .array .long
  | 1 => .array .byte
  | 2 => .object "FilterForge$Packets"
  | 3 => .int
  | 4 => .int
  | 5 => .int
  | 6 => .int
  | 7 => .int
  | 8 => .long
  | _ => .boolean
abbrev wsX40 : List Cond := u_ws RX4 TX4 10
theorem nmX4 : ∀ a, a < 10 → ∀ b, b < 10 → a ≠ b → (TX4 a).2.1 ≠ (TX4 b).2.1 := by decide +kernel
theorem tyX4_ok : ∀ k, k < 10 → parseFieldDescriptor (TX4 k).2.2.1 = some (tyX4 k) := by decide +kernel
def RX5 : String := "FilterForge$ObjectCode"
def TX5 : u_T := fun k => match k with
  | 0 => ("FilterForge$ObjectCode", "row", "[I", true)
  | _ => ("FilterForge$ObjectCode", "length", "I", false)
def tyX5 : Nat → FieldType := fun k => match k with
  | 0 => .array .int
  | _ => .int
abbrev wsX50 : List Cond := u_ws RX5 TX5 2
theorem nmX5 : ∀ a, a < 2 → ∀ b, b < 2 → a ≠ b → (TX5 a).2.1 ≠ (TX5 b).2.1 := by decide +kernel
theorem tyX5_ok : ∀ k, k < 2 → parseFieldDescriptor (TX5 k).2.2.1 = some (tyX5 k) := by decide +kernel
def RX6 : String := "FilterForge$Packets"
def TX6 : u_T := fun k => match k with
  | 0 => ("FilterForge$Packets", "cells", "[B", true)
  | 1 => ("FilterForge$Packets", "lengths", "[I", true)
  | _ => ("FilterForge$Packets", "held", "I", false)
def tyX6 : Nat → FieldType := fun k => match k with
  | 0 => .array .byte
  | 1 => .array .int
  | _ => .int
abbrev wsX60 : List Cond := u_ws RX6 TX6 3
theorem nmX6 : ∀ a, a < 3 → ∀ b, b < 3 → a ≠ b → (TX6 a).2.1 ≠ (TX6 b).2.1 := by decide +kernel
theorem tyX6_ok : ∀ k, k < 3 → parseFieldDescriptor (TX6 k).2.2.1 = some (tyX6 k) := by decide +kernel
def RX7 : String := "FilterForge$Program"
def TX7 : u_T := fun k => match k with
  | 0 => ("FilterForge$Program", "row", "[J", true)
  | _ => ("FilterForge$Program", "length", "I", false)
def tyX7 : Nat → FieldType := fun k => match k with
  | 0 => .array .long
  | _ => .int
abbrev wsX70 : List Cond := u_ws RX7 TX7 2
theorem nmX7 : ∀ a, a < 2 → ∀ b, b < 2 → a ≠ b → (TX7 a).2.1 ≠ (TX7 b).2.1 := by decide +kernel
theorem tyX7_ok : ∀ k, k < 2 → parseFieldDescriptor (TX7 k).2.2.1 = some (tyX7 k) := by decide +kernel
def RX8 : String := "FilterForge$Reader"
def TX8 : u_T := fun k => match k with
  | 0 => ("FilterForge$Reader", "text", "LFilterForge$Tape;", true)
  | 1 => ("FilterForge$Reader", "made", "LFilterForge$Filter;", false)
  | 2 => ("FilterForge$Reader", "kind", "I", false)
  | 3 => ("FilterForge$Reader", "first", "I", false)
  | 4 => ("FilterForge$Reader", "behind", "I", false)
  | _ => ("FilterForge$Reader", "wrong", "I", false)
def tyX8 : Nat → FieldType := fun k => match k with
  | 0 => .object "FilterForge$Tape"
  | 1 => .object "FilterForge$Filter"
  | 2 => .int
  | 3 => .int
  | 4 => .int
  | _ => .int
abbrev wsX80 : List Cond := u_ws RX8 TX8 6
theorem nmX8 : ∀ a, a < 6 → ∀ b, b < 6 → a ≠ b → (TX8 a).2.1 ≠ (TX8 b).2.1 := by decide +kernel
theorem tyX8_ok : ∀ k, k < 6 → parseFieldDescriptor (TX8 k).2.2.1 = some (tyX8 k) := by decide +kernel
def RX9 : String := "FilterForge$Tape"
def TX9 : u_T := fun k => match k with
  | 0 => ("FilterForge$Tape", "row", "[B", true)
  | _ => ("FilterForge$Tape", "length", "I", false)
def tyX9 : Nat → FieldType := fun k => match k with
  | 0 => .array .byte
  | _ => .int
abbrev wsX90 : List Cond := u_ws RX9 TX9 2
theorem nmX9 : ∀ a, a < 2 → ∀ b, b < 2 → a ≠ b → (TX9 a).2.1 ≠ (TX9 b).2.1 := by decide +kernel
theorem tyX9_ok : ∀ k, k < 2 → parseFieldDescriptor (TX9 k).2.2.1 = some (tyX9 k) := by decide +kernel
def RX10 : String := "FilterForge$Translator"
def TX10 : u_T := fun k => match k with
  | 0 => ("FilterForge$Translator", "starts", "[I", true)
  | 1 => ("FilterForge$Translator", "made", "LFilterForge$ObjectCode;", true)
  | 2 => ("FilterForge$Translator", "source", "LFilterForge$Program;", false)
  | 3 => ("FilterForge$Translator", "writes", "Z", false)
  | _ => ("FilterForge$Translator", "length", "I", false)
def tyX10 : Nat → FieldType := fun k => match k with
  | 0 => .array .int
  | 1 => .object "FilterForge$ObjectCode"
  | 2 => .object "FilterForge$Program"
  | 3 => .boolean
  | _ => .int
abbrev wsX100 : List Cond := u_ws RX10 TX10 5
theorem nmX10 : ∀ a, a < 5 → ∀ b, b < 5 → a ≠ b → (TX10 a).2.1 ≠ (TX10 b).2.1 := by decide +kernel
theorem tyX10_ok : ∀ k, k < 5 → parseFieldDescriptor (TX10 k).2.2.1 = some (tyX10 k) := by decide +kernel
def RX11 : String := "FilterForge"
def TX11 : u_T := fun k => match k with
  | 0 => ("FilterForge", "tape", "LFilterForge$Tape;", true)
  | 1 => ("FilterForge", "packets", "LFilterForge$Packets;", true)
  | 2 => ("FilterForge", "machine", "LFilterForge$Machine;", true)
  | 3 => ("FilterForge", "object", "LFilterForge$ObjectCode;", true)
  | 4 => ("FilterForge", "filter", "LFilterForge$Filter;", false)
  | 5 => ("FilterForge", "spareFilter", "LFilterForge$Filter;", false)
  | 6 => ("FilterForge", "program", "LFilterForge$Program;", false)
  | 7 => ("FilterForge", "spareProgram", "LFilterForge$Program;", false)
  | 8 => ("FilterForge", "filterRead", "Z", false)
  | 9 => ("FilterForge", "reader", "LFilterForge$Reader;", true)
  | 10 => ("FilterForge", "coder", "LFilterForge$Coder;", true)
  | 11 => ("FilterForge", "translator", "LFilterForge$Translator;", true)
  | 12 => ("FilterForge", "inspector", "LFilterForge$Inspector;", true)
  | _ => ("FilterForge", "gatekeeper", "LFilterForge$Inspector;", true)
def tyX11 : Nat → FieldType := fun k => match k with
  | 0 => .object "FilterForge$Tape"
  | 1 => .object "FilterForge$Packets"
  | 2 => .object "FilterForge$Machine"
  | 3 => .object "FilterForge$ObjectCode"
  | 4 => .object "FilterForge$Filter"
  | 5 => .object "FilterForge$Filter"
  | 6 => .object "FilterForge$Program"
  | 7 => .object "FilterForge$Program"
  | 8 => .boolean
  | 9 => .object "FilterForge$Reader"
  | 10 => .object "FilterForge$Coder"
  | 11 => .object "FilterForge$Translator"
  | 12 => .object "FilterForge$Inspector"
  | _ => .object "FilterForge$Inspector"
abbrev wsX110 : List Cond := u_ws RX11 TX11 14
theorem nmX11 : ∀ a, a < 14 → ∀ b, b < 14 → a ≠ b → (TX11 a).2.1 ≠ (TX11 b).2.1 := by decide +kernel
theorem tyX11_ok : ∀ k, k < 14 → parseFieldDescriptor (TX11 k).2.2.1 = some (tyX11 k) := by decide +kernel
def RX12 : String := "FilterForgeModel$Filter"
def TX12 : u_T := fun k => match k with
  | 0 => ("FilterForgeModel$Filter", "kind", "I", true)
  | 1 => ("FilterForgeModel$Filter", "a", "LFilterForgeModel$Filter;", true)
  | 2 => ("FilterForgeModel$Filter", "b", "LFilterForgeModel$Filter;", true)
  | 3 => ("FilterForgeModel$Filter", "left", "LFilterForgeModel$Sum;", true)
  | 4 => ("FilterForgeModel$Filter", "right", "LFilterForgeModel$Sum;", true)
  | 5 => ("FilterForgeModel$Filter", "sign", "I", true)
  | _ => ("FilterForgeModel$Filter", "first", "I", false)
def tyX12 : Nat → FieldType := fun k => match k with
  | 0 => .int
  | 1 => .object "FilterForgeModel$Filter"
  | 2 => .object "FilterForgeModel$Filter"
  | 3 => .object "FilterForgeModel$Sum"
  | 4 => .object "FilterForgeModel$Sum"
  | 5 => .int
  | _ => .int
abbrev wsX120 : List Cond := u_ws RX12 TX12 7
theorem nmX12 : ∀ a, a < 7 → ∀ b, b < 7 → a ≠ b → (TX12 a).2.1 ≠ (TX12 b).2.1 := by decide +kernel
theorem tyX12_ok : ∀ k, k < 7 → parseFieldDescriptor (TX12 k).2.2.1 = some (tyX12 k) := by decide +kernel
def RX13 : String := "FilterForgeModel$Never"
def TX13 : u_T := fun k => match k with
  | 0 => ("java/lang/Throwable", "cause", "Ljava/lang/Throwable;", false)
  | 1 => ("java/lang/Throwable", "stackTrace", "[Ljava/lang/StackTraceElement;", false)
  | 2 => ("java/lang/Throwable", "suppressedExceptions", "Ljava/util/List;", false)
  | 3 => ("java/lang/Throwable", "detailMessage", "Ljava/lang/String;", false)
  | 4 => ("java/lang/Throwable", "backtrace", "Ljava/lang/Object;", false)
  | _ => ("java/lang/Throwable", "depth", "I", false)
def tyX13 : Nat → FieldType := fun k => match k with
  | 0 => .object "java/lang/Throwable"
  | 1 => .array (.object "java/lang/StackTraceElement")
  | 2 => .object "java/util/List"
  | 3 => .object "java/lang/String"
  | 4 => .object "java/lang/Object"
  | _ => .int
abbrev wsX130 : List Cond := u_ws RX13 TX13 6
theorem nmX13 : ∀ a, a < 6 → ∀ b, b < 6 → a ≠ b → (TX13 a).2.1 ≠ (TX13 b).2.1 := by decide +kernel
theorem tyX13_ok : ∀ k, k < 6 → parseFieldDescriptor (TX13 k).2.2.1 = some (tyX13 k) := by decide +kernel
def RX14 : String := "FilterForgeModel$Sum"
def TX14 : u_T := fun k => match k with
  | 0 => ("FilterForgeModel$Sum", "kind", "I", true)
  | 1 => ("FilterForgeModel$Sum", "value", "J", true)
  | 2 => ("FilterForgeModel$Sum", "a", "LFilterForgeModel$Sum;", true)
  | 3 => ("FilterForgeModel$Sum", "b", "LFilterForgeModel$Sum;", true)
  | _ => ("FilterForgeModel$Sum", "size", "I", true)
def tyX14 : Nat → FieldType := fun k => match k with
  | 0 => .int
  | 1 => .long
  | 2 => .object "FilterForgeModel$Sum"
  | 3 => .object "FilterForgeModel$Sum"
  | _ => .int
abbrev wsX140 : List Cond := u_ws RX14 TX14 5
theorem nmX14 : ∀ a, a < 5 → ∀ b, b < 5 → a ≠ b → (TX14 a).2.1 ≠ (TX14 b).2.1 := by decide +kernel
theorem tyX14_ok : ∀ k, k < 5 → parseFieldDescriptor (TX14 k).2.2.1 = some (tyX14 k) := by decide +kernel
def RX15 : String := "FilterForgeModel$Wrong"
def TX15 : u_T := fun k => match k with
  | 0 => ("java/lang/Throwable", "cause", "Ljava/lang/Throwable;", false)
  | 1 => ("java/lang/Throwable", "stackTrace", "[Ljava/lang/StackTraceElement;", false)
  | 2 => ("java/lang/Throwable", "suppressedExceptions", "Ljava/util/List;", false)
  | 3 => ("java/lang/Throwable", "detailMessage", "Ljava/lang/String;", false)
  | 4 => ("java/lang/Throwable", "backtrace", "Ljava/lang/Object;", false)
  | 5 => ("java/lang/Throwable", "depth", "I", false)
  | _ => ("FilterForgeModel$Wrong", "place", "I", true)
def tyX15 : Nat → FieldType := fun k => match k with
  | 0 => .object "java/lang/Throwable"
  | 1 => .array (.object "java/lang/StackTraceElement")
  | 2 => .object "java/util/List"
  | 3 => .object "java/lang/String"
  | 4 => .object "java/lang/Object"
  | 5 => .int
  | _ => .int
abbrev wsX150 : List Cond := u_ws RX15 TX15 7
theorem nmX15 : ∀ a, a < 7 → ∀ b, b < 7 → a ≠ b → (TX15 a).2.1 ≠ (TX15 b).2.1 := by decide +kernel
theorem tyX15_ok : ∀ k, k < 7 → parseFieldDescriptor (TX15 k).2.2.1 = some (tyX15 k) := by decide +kernel
def RX16 : String := "FilterForgeModel"
def TX16 : u_T := fun k => match k with
  | 0 => ("FilterForgeModel", "tape", "[I", true)
  | 1 => ("FilterForgeModel", "fed", "I", false)
  | 2 => ("FilterForgeModel", "packetBytes", "[I", true)
  | 3 => ("FilterForgeModel", "packetLengths", "[I", true)
  | 4 => ("FilterForgeModel", "packets", "I", false)
  | 5 => ("FilterForgeModel", "wordKind", "I", false)
  | 6 => ("FilterForgeModel", "wordFrom", "I", false)
  | 7 => ("FilterForgeModel", "wordTo", "I", false)
  | 8 => ("FilterForgeModel", "textEnd", "I", false)
  | 9 => ("FilterForgeModel", "openFilters", "I", false)
  | 10 => ("FilterForgeModel", "openSums", "I", false)
  | 11 => ("FilterForgeModel", "pending", "I", false)
  | 12 => ("FilterForgeModel", "guards", "[I", true)
  | 13 => ("FilterForgeModel", "guardMany", "I", false)
  | 14 => ("FilterForgeModel", "tests", "[LFilterForgeModel$Filter;", false)
  | 15 => ("FilterForgeModel", "testMany", "I", false)
  | 16 => ("FilterForgeModel", "yes", "[I", false)
  | 17 => ("FilterForgeModel", "no", "[I", false)
  | 18 => ("FilterForgeModel", "wasRead", "Z", false)
  | 19 => ("FilterForgeModel", "leftOut", "I", false)
  | 20 => ("FilterForgeModel", "pile", "[LFilterForgeModel$Filter;", false)
  | 21 => ("FilterForgeModel", "pileYes", "[I", false)
  | 22 => ("FilterForgeModel", "pileNo", "[I", false)
  | 23 => ("FilterForgeModel", "piled", "I", false)
  | 24 => ("FilterForgeModel", "spine", "[LFilterForgeModel$Sum;", false)
  | 25 => ("FilterForgeModel", "spined", "I", false)
  | 26 => ("FilterForgeModel", "program", "[J", false)
  | 27 => ("FilterForgeModel", "hasProgram", "Z", false)
  | 28 => ("FilterForgeModel", "code", "[J", false)
  | 29 => ("FilterForgeModel", "coded", "I", false)
  | 30 => ("FilterForgeModel", "wantsAt", "[I", false)
  | 31 => ("FilterForgeModel", "wantsWhat", "[I", false)
  | 32 => ("FilterForgeModel", "wants", "I", false)
  | 33 => ("FilterForgeModel", "registers", "[J", true)
  | 34 => ("FilterForgeModel", "stackBytes", "[I", true)
  | 35 => ("FilterForgeModel", "trap", "I", false)
  | 36 => ("FilterForgeModel", "steps", "I", false)
  | 37 => ("FilterForgeModel", "endedAt", "I", false)
  | 38 => ("FilterForgeModel", "wasEmulated", "Z", false)
  | 39 => ("FilterForgeModel", "kinds", "[I", false)
  | 40 => ("FilterForgeModel", "lows", "[J", false)
  | 41 => ("FilterForgeModel", "highs", "[J", false)
  | 42 => ("FilterForgeModel", "knowns", "[J", false)
  | 43 => ("FilterForgeModel", "ones", "[J", false)
  | 44 => ("FilterForgeModel", "sets", "[J", false)
  | 45 => ("FilterForgeModel", "comes", "[Z", false)
  | 46 => ("FilterForgeModel", "looked", "I", false)
  | 47 => ("FilterForgeModel", "low", "J", false)
  | 48 => ("FilterForgeModel", "high", "J", false)
  | 49 => ("FilterForgeModel", "known", "J", false)
  | 50 => ("FilterForgeModel", "one", "J", false)
  | 51 => ("FilterForgeModel", "yLow", "J", false)
  | 52 => ("FilterForgeModel", "yHigh", "J", false)
  | 53 => ("FilterForgeModel", "yKnown", "J", false)
  | 54 => ("FilterForgeModel", "yOne", "J", false)
  | 55 => ("FilterForgeModel", "kind", "[I", true)
  | 56 => ("FilterForgeModel", "l", "[J", true)
  | 57 => ("FilterForgeModel", "h", "[J", true)
  | 58 => ("FilterForgeModel", "k", "[J", true)
  | 59 => ("FilterForgeModel", "o", "[J", true)
  | 60 => ("FilterForgeModel", "set", "J", false)
  | 61 => ("FilterForgeModel", "otherKinds", "[I", false)
  | 62 => ("FilterForgeModel", "otherLows", "[J", false)
  | 63 => ("FilterForgeModel", "otherHighs", "[J", false)
  | 64 => ("FilterForgeModel", "otherKnowns", "[J", false)
  | 65 => ("FilterForgeModel", "otherOnes", "[J", false)
  | 66 => ("FilterForgeModel", "otherSets", "[J", false)
  | 67 => ("FilterForgeModel", "otherComes", "[Z", false)
  | 68 => ("FilterForgeModel", "otherLooked", "I", false)
  | 69 => ("FilterForgeModel", "object", "[I", true)
  | 70 => ("FilterForgeModel", "objectMany", "I", false)
  | 71 => ("FilterForgeModel", "hasObject", "Z", false)
  | 72 => ("FilterForgeModel", "words", "[I", true)
  | 73 => ("FilterForgeModel", "wordMany", "I", false)
  | 74 => ("FilterForgeModel", "wordOf", "[I", true)
  | 75 => ("FilterForgeModel", "goesTo", "J", false)
  | 76 => ("FilterForgeModel", "isBad", "Z", false)
  | _ => ("FilterForgeModel", "noMemory", "Z", false)
def tyX16 : Nat → FieldType := fun k => match k with
  | 0 => .array .int
  | 1 => .int
  | 2 => .array .int
  | 3 => .array .int
  | 4 => .int
  | 5 => .int
  | 6 => .int
  | 7 => .int
  | 8 => .int
  | 9 => .int
  | 10 => .int
  | 11 => .int
  | 12 => .array .int
  | 13 => .int
  | 14 => .array (.object "FilterForgeModel$Filter")
  | 15 => .int
  | 16 => .array .int
  | 17 => .array .int
  | 18 => .boolean
  | 19 => .int
  | 20 => .array (.object "FilterForgeModel$Filter")
  | 21 => .array .int
  | 22 => .array .int
  | 23 => .int
  | 24 => .array (.object "FilterForgeModel$Sum")
  | 25 => .int
  | 26 => .array .long
  | 27 => .boolean
  | 28 => .array .long
  | 29 => .int
  | 30 => .array .int
  | 31 => .array .int
  | 32 => .int
  | 33 => .array .long
  | 34 => .array .int
  | 35 => .int
  | 36 => .int
  | 37 => .int
  | 38 => .boolean
  | 39 => .array .int
  | 40 => .array .long
  | 41 => .array .long
  | 42 => .array .long
  | 43 => .array .long
  | 44 => .array .long
  | 45 => .array .boolean
  | 46 => .int
  | 47 => .long
  | 48 => .long
  | 49 => .long
  | 50 => .long
  | 51 => .long
  | 52 => .long
  | 53 => .long
  | 54 => .long
  | 55 => .array .int
  | 56 => .array .long
  | 57 => .array .long
  | 58 => .array .long
  | 59 => .array .long
  | 60 => .long
  | 61 => .array .int
  | 62 => .array .long
  | 63 => .array .long
  | 64 => .array .long
  | 65 => .array .long
  | 66 => .array .long
  | 67 => .array .boolean
  | 68 => .int
  | 69 => .array .int
  | 70 => .int
  | 71 => .boolean
  | 72 => .array .int
  | 73 => .int
  | 74 => .array .int
  | 75 => .long
  | 76 => .boolean
  | _ => .boolean
abbrev wsX160 : List Cond := u_ws RX16 TX16 78
theorem nmX16 : ∀ a, a < 78 → ∀ b, b < 78 → a ≠ b → (TX16 a).2.1 ≠ (TX16 b).2.1 := by decide +kernel
theorem tyX16_ok : ∀ k, k < 78 → parseFieldDescriptor (TX16 k).2.2.1 = some (tyX16 k) := by decide +kernel
def RL : String := "FilterForgeLaw"
abbrev cX0_init : ByteArray := prog_2_method_1_code
def yX0_init : MethodName := ⟨RX0, "<init>", "(LFilterForge$Filter;LFilterForge$Program;)V"⟩
abbrev cX0_code : ByteArray := prog_2_method_2_code
def yX0_code : MethodName := ⟨RX0, "code", "(LFilterForge$Filter;LFilterForge$Program;)I"⟩
abbrev cX0_put : ByteArray := prog_2_method_3_code
def yX0_put : MethodName := ⟨RX0, "put", "(IIIII)V"⟩
abbrev cX0_putGoing : ByteArray := prog_2_method_4_code
def yX0_putGoing : MethodName := ⟨RX0, "putGoing", "(IIIII)V"⟩
abbrev cX0_placeGoals : ByteArray := prog_2_method_5_code
def yX0_placeGoals : MethodName := ⟨RX0, "placeGoals", "()V"⟩
abbrev cX0_rightIsNumber : ByteArray := prog_2_method_6_code
def yX0_rightIsNumber : MethodName := ⟨RX0, "rightIsNumber", "(I)Z"⟩
abbrev cX0_codeTest : ByteArray := prog_2_method_7_code
def yX0_codeTest : MethodName := ⟨RX0, "codeTest", "(I)V"⟩
abbrev cX0_codeWays : ByteArray := prog_2_method_8_code
def yX0_codeWays : MethodName := ⟨RX0, "codeWays", "(I)V"⟩
abbrev cX0_nextKept : ByteArray := prog_2_method_9_code
def yX0_nextKept : MethodName := ⟨RX0, "nextKept", "(I)I"⟩
abbrev cX0_codeItems : ByteArray := prog_2_method_10_code
def yX0_codeItems : MethodName := ⟨RX0, "codeItems", "(II)V"⟩
abbrev cX0_codeItem : ByteArray := prog_2_method_11_code
def yX0_codeItem : MethodName := ⟨RX0, "codeItem", "(III)V"⟩
abbrev cX0_readCode : ByteArray := prog_2_method_12_code
def yX0_readCode : MethodName := ⟨RX0, "readCode", "(I)I"⟩
abbrev cX0_slot : ByteArray := prog_2_method_13_code
def yX0_slot : MethodName := ⟨RX0, "slot", "(I)I"⟩
abbrev cX0_codePush : ByteArray := prog_2_method_14_code
def yX0_codePush : MethodName := ⟨RX0, "codePush", "(I)V"⟩
abbrev cX0_codePull : ByteArray := prog_2_method_15_code
def yX0_codePull : MethodName := ⟨RX0, "codePull", "(I)V"⟩
abbrev cX0_codeWithNumber : ByteArray := prog_2_method_16_code
def yX0_codeWithNumber : MethodName := ⟨RX0, "codeWithNumber", "(II)V"⟩
abbrev cX0_codeWithPushed : ByteArray := prog_2_method_17_code
def yX0_codeWithPushed : MethodName := ⟨RX0, "codeWithPushed", "(II)V"⟩
abbrev cX0_codeReadInBody : ByteArray := prog_2_method_18_code
def yX0_codeReadInBody : MethodName := ⟨RX0, "codeReadInBody", "(II)V"⟩
abbrev cX1_init : ByteArray := prog_3_method_1_code
def yX1_init : MethodName := ⟨RX1, "<init>", "()V"⟩
abbrev cX1_lose : ByteArray := prog_3_method_2_code
def yX1_lose : MethodName := ⟨RX1, "lose", "()V"⟩
abbrev cX1_copy : ByteArray := prog_3_method_3_code
def yX1_copy : MethodName := ⟨RX1, "copy", "(LFilterForge$Fact;)V"⟩
abbrev cX1_setExact : ByteArray := prog_3_method_4_code
def yX1_setExact : MethodName := ⟨RX1, "setExact", "(J)V"⟩
abbrev cX1_setRange : ByteArray := prog_3_method_5_code
def yX1_setRange : MethodName := ⟨RX1, "setRange", "(JJ)V"⟩
abbrev cX1_setBytes : ByteArray := prog_3_method_6_code
def yX1_setBytes : MethodName := ⟨RX1, "setBytes", "(I)V"⟩
abbrev cX1_isExact : ByteArray := prog_3_method_7_code
def yX1_isExact : MethodName := ⟨RX1, "isExact", "()Z"⟩
abbrev cX1_settle : ByteArray := prog_3_method_8_code
def yX1_settle : MethodName := ⟨RX1, "settle", "()V"⟩
abbrev cX1_cut : ByteArray := prog_3_method_9_code
def yX1_cut : MethodName := ⟨RX1, "cut", "()V"⟩
abbrev cX1_work : ByteArray := prog_3_method_10_code
def yX1_work : MethodName := ⟨RX1, "work", "(IZLFilterForge$Fact;)V"⟩
abbrev cX1_workBits : ByteArray := prog_3_method_11_code
def yX1_workBits : MethodName := ⟨RX1, "workBits", "(IZLFilterForge$Fact;)V"⟩
abbrev cX1_addBits : ByteArray := prog_3_method_12_code
def yX1_addBits : MethodName := ⟨RX1, "addBits", "(LFilterForge$Fact;)V"⟩
abbrev cX1_takeBits : ByteArray := prog_3_method_13_code
def yX1_takeBits : MethodName := ⟨RX1, "takeBits", "(LFilterForge$Fact;)V"⟩
abbrev cX1_shiftBits : ByteArray := prog_3_method_14_code
def yX1_shiftBits : MethodName := ⟨RX1, "shiftBits", "(IZLFilterForge$Fact;)V"⟩
abbrev cX1_isUnsigned : ByteArray := prog_3_method_15_code
def yX1_isUnsigned : MethodName := ⟨RX1, "isUnsigned", "(Z)Z"⟩
abbrev cX1_workRange : ByteArray := prog_3_method_16_code
def yX1_workRange : MethodName := ⟨RX1, "workRange", "(IZLFilterForge$Fact;)V"⟩
abbrev cX1_keepRange : ByteArray := prog_3_method_17_code
def yX1_keepRange : MethodName := ⟨RX1, "keepRange", "(JJZ)V"⟩
abbrev cX1_filled : ByteArray := prog_3_method_18_code
def yX1_filled : MethodName := ⟨RX1, "filled", "(J)J"⟩
abbrev cX1_narrow : ByteArray := prog_3_method_19_code
def yX1_narrow : MethodName := ⟨RX1, "narrow", "(IJ)Z"⟩
abbrev cX1_narrowUnequal : ByteArray := prog_3_method_20_code
def yX1_narrowUnequal : MethodName := ⟨RX1, "narrowUnequal", "(J)Z"⟩
abbrev cX2_init : ByteArray := prog_4_method_1_code
def yX2_init : MethodName := ⟨RX2, "<init>", "()V"⟩
abbrev cX2_clear : ByteArray := prog_4_method_2_code
def yX2_clear : MethodName := ⟨RX2, "clear", "()V"⟩
abbrev cX2_newLabel : ByteArray := prog_4_method_3_code
def yX2_newLabel : MethodName := ⟨RX2, "newLabel", "()I"⟩
abbrev cX2_putLabelHere : ByteArray := prog_4_method_4_code
def yX2_putLabelHere : MethodName := ⟨RX2, "putLabelHere", "(I)V"⟩
abbrev cX2_joinLabel : ByteArray := prog_4_method_5_code
def yX2_joinLabel : MethodName := ⟨RX2, "joinLabel", "(II)V"⟩
abbrev cX2_item : ByteArray := prog_4_method_6_code
def yX2_item : MethodName := ⟨RX2, "item", "(III)V"⟩
abbrev cX2_joinSides : ByteArray := prog_4_method_7_code
def yX2_joinSides : MethodName := ⟨RX2, "joinSides", "(IIIZ)V"⟩
abbrev cX2_hideNumber : ByteArray := prog_4_method_8_code
def yX2_hideNumber : MethodName := ⟨RX2, "hideNumber", "()V"⟩
abbrev cX2_askNothing : ByteArray := prog_4_method_9_code
def yX2_askNothing : MethodName := ⟨RX2, "askNothing", "()V"⟩
abbrev cX2_ask : ByteArray := prog_4_method_10_code
def yX2_ask : MethodName := ⟨RX2, "ask", "(I)V"⟩
abbrev cX2_access : ByteArray := prog_4_method_11_code
def yX2_access : MethodName := ⟨RX2, "access", "(IIII)V"⟩
abbrev cX2_test : ByteArray := prog_4_method_12_code
def yX2_test : MethodName := ⟨RX2, "test", "(IIIIII)V"⟩
abbrev cX2_testNumber : ByteArray := prog_4_method_13_code
def yX2_testNumber : MethodName := ⟨RX2, "testNumber", "(IIIII)V"⟩
abbrev cX2_testRead : ByteArray := prog_4_method_14_code
def yX2_testRead : MethodName := ⟨RX2, "testRead", "(IIIII)V"⟩
abbrev cX2_testType : ByteArray := prog_4_method_15_code
def yX2_testType : MethodName := ⟨RX2, "testType", "(III)V"⟩
abbrev cX2_testByte : ByteArray := prog_4_method_16_code
def yX2_testByte : MethodName := ⟨RX2, "testByte", "(IIII)V"⟩
abbrev cX2_testFirstPart : ByteArray := prog_4_method_17_code
def yX2_testFirstPart : MethodName := ⟨RX2, "testFirstPart", "(II)V"⟩
abbrev cX2_testLength : ByteArray := prog_4_method_18_code
def yX2_testLength : MethodName := ⟨RX2, "testLength", "(IIII)V"⟩
abbrev cX2_numberOf : ByteArray := prog_4_method_19_code
def yX2_numberOf : MethodName := ⟨RX2, "numberOf", "(I)I"⟩
abbrev cX2_testProtocol : ByteArray := prog_4_method_20_code
def yX2_testProtocol : MethodName := ⟨RX2, "testProtocol", "(III)V"⟩
abbrev cX2_testGuards : ByteArray := prog_4_method_21_code
def yX2_testGuards : MethodName := ⟨RX2, "testGuards", "(I)V"⟩
abbrev cX2_testAddress : ByteArray := prog_4_method_22_code
def yX2_testAddress : MethodName := ⟨RX2, "testAddress", "(IIZIII)V"⟩
abbrev cX2_testAddressAt : ByteArray := prog_4_method_23_code
def yX2_testAddressAt : MethodName := ⟨RX2, "testAddressAt", "(IIZIII)V"⟩
abbrev cX2_testPorts : ByteArray := prog_4_method_24_code
def yX2_testPorts : MethodName := ⟨RX2, "testPorts", "(IIIII)V"⟩
abbrev cX2_testSides : ByteArray := prog_4_method_25_code
def yX2_testSides : MethodName := ⟨RX2, "testSides", "(ZIIIII)V"⟩
abbrev cX2_testPort : ByteArray := prog_4_method_26_code
def yX2_testPort : MethodName := ⟨RX2, "testPort", "(IIIII)V"⟩
abbrev cX2_portItems : ByteArray := prog_4_method_27_code
def yX2_portItems : MethodName := ⟨RX2, "portItems", "(I)V"⟩
abbrev cX2_finish : ByteArray := prog_4_method_28_code
def yX2_finish : MethodName := ⟨RX2, "finish", "()V"⟩
abbrev cX2_placeWays : ByteArray := prog_4_method_29_code
def yX2_placeWays : MethodName := ⟨RX2, "placeWays", "()V"⟩
abbrev cX2_placeOf : ByteArray := prog_4_method_30_code
def yX2_placeOf : MethodName := ⟨RX2, "placeOf", "(II)I"⟩
abbrev cX2_shortened : ByteArray := prog_4_method_31_code
def yX2_shortened : MethodName := ⟨RX2, "shortened", "(IZ)I"⟩
abbrev cX2_told : ByteArray := prog_4_method_32_code
def yX2_told : MethodName := ⟨RX2, "told", "(I)Z"⟩
abbrev cX2_readsAlike : ByteArray := prog_4_method_33_code
def yX2_readsAlike : MethodName := ⟨RX2, "readsAlike", "(II)Z"⟩
abbrev cX2_placeRead : ByteArray := prog_4_method_34_code
def yX2_placeRead : MethodName := ⟨RX2, "placeRead", "(I)I"⟩
abbrev cX2_leaveOut : ByteArray := prog_4_method_35_code
def yX2_leaveOut : MethodName := ⟨RX2, "leaveOut", "()V"⟩
abbrev cX2_says : ByteArray := prog_4_method_36_code
def yX2_says : MethodName := ⟨RX2, "says", "(LFilterForge$Packets;I)Z"⟩
abbrev cX2_value : ByteArray := prog_4_method_37_code
def yX2_value : MethodName := ⟨RX2, "value", "(IILFilterForge$Packets;I)J"⟩
abbrev cX2_joined : ByteArray := prog_4_method_38_code
def yX2_joined : MethodName := ⟨RX2, "joined", "(IJJ)J"⟩
abbrev cX2_readInBody : ByteArray := prog_4_method_39_code
def yX2_readInBody : MethodName := ⟨RX2, "readInBody", "(LFilterForge$Packets;IJI)J"⟩
abbrev cX3_init : ByteArray := prog_5_method_1_code
def yX3_init : MethodName := ⟨RX3, "<init>", "(LFilterForge$Program;)V"⟩
abbrev cX3_look : ByteArray := prog_5_method_2_code
def yX3_look : MethodName := ⟨RX3, "look", "(LFilterForge$Program;)I"⟩
abbrev cX3_tell : ByteArray := prog_5_method_3_code
def yX3_tell : MethodName := ⟨RX3, "tell", "(III)J"⟩
abbrev cX3_firstUnfit : ByteArray := prog_5_method_4_code
def yX3_firstUnfit : MethodName := ⟨RX3, "firstUnfit", "()I"⟩
abbrev cX3_goesAstray : ByteArray := prog_5_method_5_code
def yX3_goesAstray : MethodName := ⟨RX3, "goesAstray", "(IJ)Z"⟩
abbrev cX3_makeRoom : ByteArray := prog_5_method_6_code
def yX3_makeRoom : MethodName := ⟨RX3, "makeRoom", "()V"⟩
abbrev cX3_begin : ByteArray := prog_5_method_7_code
def yX3_begin : MethodName := ⟨RX3, "begin", "()V"⟩
abbrev cX3_bring : ByteArray := prog_5_method_8_code
def yX3_bring : MethodName := ⟨RX3, "bring", "(I)V"⟩
abbrev cX3_arrive : ByteArray := prog_5_method_9_code
def yX3_arrive : MethodName := ⟨RX3, "arrive", "(I)V"⟩
abbrev cX3_put : ByteArray := prog_5_method_10_code
def yX3_put : MethodName := ⟨RX3, "put", "(IIJJJJ)V"⟩
abbrev cX3_isLost : ByteArray := prog_5_method_11_code
def yX3_isLost : MethodName := ⟨RX3, "isLost", "(I)Z"⟩
abbrev cX3_isPointer : ByteArray := prog_5_method_12_code
def yX3_isPointer : MethodName := ⟨RX3, "isPointer", "(I)Z"⟩
abbrev cX3_offenceOf : ByteArray := prog_5_method_13_code
def yX3_offenceOf : MethodName := ⟨RX3, "offenceOf", "(J)I"⟩
abbrev cX3_offenceOfUse : ByteArray := prog_5_method_14_code
def yX3_offenceOfUse : MethodName := ⟨RX3, "offenceOfUse", "(II)I"⟩
abbrev cX3_offenceOfOp : ByteArray := prog_5_method_15_code
def yX3_offenceOfOp : MethodName := ⟨RX3, "offenceOfOp", "(III)I"⟩
abbrev cX3_offenceOfMemory : ByteArray := prog_5_method_16_code
def yX3_offenceOfMemory : MethodName := ⟨RX3, "offenceOfMemory", "(JI)I"⟩
abbrev cX3_bytesFrom : ByteArray := prog_5_method_17_code
def yX3_bytesFrom : MethodName := ⟨RX3, "bytesFrom", "(I)J"⟩
abbrev cX3_pass : ByteArray := prog_5_method_18_code
def yX3_pass : MethodName := ⟨RX3, "pass", "(IJ)V"⟩
abbrev cX3_bringSide : ByteArray := prog_5_method_19_code
def yX3_bringSide : MethodName := ⟨RX3, "bringSide", "(J)V"⟩
abbrev cX3_passJump : ByteArray := prog_5_method_20_code
def yX3_passJump : MethodName := ⟨RX3, "passJump", "(IJ)V"⟩
abbrev cX4_init : ByteArray := prog_6_method_1_code
def yX4_init : MethodName := ⟨RX4, "<init>", "(LFilterForge$Packets;)V"⟩
abbrev cX4_begin : ByteArray := prog_6_method_2_code
def yX4_begin : MethodName := ⟨RX4, "begin", "(II)V"⟩
abbrev cX4_get : ByteArray := prog_6_method_3_code
def yX4_get : MethodName := ⟨RX4, "get", "(I)J"⟩
abbrev cX4_set : ByteArray := prog_6_method_4_code
def yX4_set : MethodName := ⟨RX4, "set", "(IJ)V"⟩
abbrev cX4_stop : ByteArray := prog_6_method_5_code
def yX4_stop : MethodName := ⟨RX4, "stop", "(I)V"⟩
abbrev cX4_stepOn : ByteArray := prog_6_method_6_code
def yX4_stepOn : MethodName := ⟨RX4, "stepOn", "(I)V"⟩
abbrev cX4_readPacket : ByteArray := prog_6_method_7_code
def yX4_readPacket : MethodName := ⟨RX4, "readPacket", "(JI)J"⟩
abbrev cX4_inStack : ByteArray := prog_6_method_8_code
def yX4_inStack : MethodName := ⟨RX4, "inStack", "(JI)Z"⟩
abbrev cX4_inPacket : ByteArray := prog_6_method_9_code
def yX4_inPacket : MethodName := ⟨RX4, "inPacket", "(JI)Z"⟩
abbrev cX4_byteAt : ByteArray := prog_6_method_10_code
def yX4_byteAt : MethodName := ⟨RX4, "byteAt", "(J)I"⟩
abbrev cX4_load8 : ByteArray := prog_6_method_11_code
def yX4_load8 : MethodName := ⟨RX4, "load8", "(JI)J"⟩
abbrev cX4_store : ByteArray := prog_6_method_12_code
def yX4_store : MethodName := ⟨RX4, "store", "(JIJ)V"⟩
abbrev cX5_init : ByteArray := prog_7_method_1_code
def yX5_init : MethodName := ⟨RX5, "<init>", "()V"⟩
abbrev cX5_takeTape : ByteArray := prog_7_method_2_code
def yX5_takeTape : MethodName := ⟨RX5, "takeTape", "(LFilterForge$Tape;)I"⟩
abbrev cX5_at : ByteArray := prog_7_method_3_code
def yX5_at : MethodName := ⟨RX5, "at", "(I)I"⟩
abbrev cX5_perform : ByteArray := prog_7_method_4_code
def yX5_perform : MethodName := ⟨RX5, "perform", "(LFilterForge$Machine;II)J"⟩
abbrev cX5_highPart : ByteArray := prog_7_method_5_code
def yX5_highPart : MethodName := ⟨RX5, "highPart", "(I)I"⟩
abbrev cX5_middlePart : ByteArray := prog_7_method_6_code
def yX5_middlePart : MethodName := ⟨RX5, "middlePart", "(I)I"⟩
abbrev cX5_exists : ByteArray := prog_7_method_7_code
def yX5_exists : MethodName := ⟨RX5, "exists", "(I)Z"⟩
abbrev cX5_step : ByteArray := prog_7_method_8_code
def yX5_step : MethodName := ⟨RX5, "step", "(LFilterForge$Machine;)V"⟩
abbrev cX5_shiftHigh : ByteArray := prog_7_method_9_code
def yX5_shiftHigh : MethodName := ⟨RX5, "shiftHigh", "(I)I"⟩
abbrev cX5_farNumber : ByteArray := prog_7_method_10_code
def yX5_farNumber : MethodName := ⟨RX5, "farNumber", "(I)I"⟩
abbrev cX5_branchNumber : ByteArray := prog_7_method_11_code
def yX5_branchNumber : MethodName := ⟨RX5, "branchNumber", "(I)I"⟩
abbrev cX5_storeNumber : ByteArray := prog_7_method_12_code
def yX5_storeNumber : MethodName := ⟨RX5, "storeNumber", "(I)I"⟩
abbrev cX5_keep : ByteArray := prog_7_method_13_code
def yX5_keep : MethodName := ⟨RX5, "keep", "(LFilterForge$Machine;IJ)V"⟩
abbrev cX5_go : ByteArray := prog_7_method_14_code
def yX5_go : MethodName := ⟨RX5, "go", "(LFilterForge$Machine;J)V"⟩
abbrev cX5_goLinked : ByteArray := prog_7_method_15_code
def yX5_goLinked : MethodName := ⟨RX5, "goLinked", "(LFilterForge$Machine;IJ)V"⟩
abbrev cX5_branches : ByteArray := prog_7_method_16_code
def yX5_branches : MethodName := ⟨RX5, "branches", "(IJJ)Z"⟩
abbrev cX5_fetch : ByteArray := prog_7_method_17_code
def yX5_fetch : MethodName := ⟨RX5, "fetch", "(LFilterForge$Machine;IJI)V"⟩
abbrev cX5_keepInMemory : ByteArray := prog_7_method_18_code
def yX5_keepInMemory : MethodName := ⟨RX5, "keepInMemory", "(LFilterForge$Machine;JIJ)V"⟩
abbrev cX5_made : ByteArray := prog_7_method_19_code
def yX5_made : MethodName := ⟨RX5, "made", "(IIJJ)J"⟩
abbrev cX5_divided : ByteArray := prog_7_method_20_code
def yX5_divided : MethodName := ⟨RX5, "divided", "(JJ)J"⟩
abbrev cX5_made32 : ByteArray := prog_7_method_21_code
def yX5_made32 : MethodName := ⟨RX5, "made32", "(IIJJ)J"⟩
abbrev cX6_init : ByteArray := prog_8_method_1_code
def yX6_init : MethodName := ⟨RX6, "<init>", "()V"⟩
abbrev cX6_add : ByteArray := prog_8_method_2_code
def yX6_add : MethodName := ⟨RX6, "add", "(LFilterForge$Tape;)I"⟩
abbrev cX6_lengthOf : ByteArray := prog_8_method_3_code
def yX6_lengthOf : MethodName := ⟨RX6, "lengthOf", "(I)I"⟩
abbrev cX6_at : ByteArray := prog_8_method_4_code
def yX6_at : MethodName := ⟨RX6, "at", "(IJ)I"⟩
abbrev cX6_eightFrom : ByteArray := prog_8_method_5_code
def yX6_eightFrom : MethodName := ⟨RX6, "eightFrom", "(II)J"⟩
abbrev cX6_read : ByteArray := prog_8_method_6_code
def yX6_read : MethodName := ⟨RX6, "read", "(IJI)J"⟩
abbrev cX7_init : ByteArray := prog_9_method_1_code
def yX7_init : MethodName := ⟨RX7, "<init>", "()V"⟩
abbrev cX7_takeTape : ByteArray := prog_9_method_2_code
def yX7_takeTape : MethodName := ⟨RX7, "takeTape", "(LFilterForge$Tape;)I"⟩
abbrev cX7_at : ByteArray := prog_9_method_3_code
def yX7_at : MethodName := ⟨RX7, "at", "(I)J"⟩
abbrev cX7_codeOf : ByteArray := prog_9_method_4_code
def yX7_codeOf : MethodName := ⟨RX7, "codeOf", "(J)I"⟩
abbrev cX7_dOf : ByteArray := prog_9_method_5_code
def yX7_dOf : MethodName := ⟨RX7, "dOf", "(J)I"⟩
abbrev cX7_sOf : ByteArray := prog_9_method_6_code
def yX7_sOf : MethodName := ⟨RX7, "sOf", "(J)I"⟩
abbrev cX7_offOf : ByteArray := prog_9_method_7_code
def yX7_offOf : MethodName := ⟨RX7, "offOf", "(J)I"⟩
abbrev cX7_kOf : ByteArray := prog_9_method_8_code
def yX7_kOf : MethodName := ⟨RX7, "kOf", "(J)I"⟩
abbrev cX7_isWide : ByteArray := prog_9_method_9_code
def yX7_isWide : MethodName := ⟨RX7, "isWide", "(I)Z"⟩
abbrev cX7_isOp : ByteArray := prog_9_method_10_code
def yX7_isOp : MethodName := ⟨RX7, "isOp", "(I)Z"⟩
abbrev cX7_isJump : ByteArray := prog_9_method_11_code
def yX7_isJump : MethodName := ⟨RX7, "isJump", "(I)Z"⟩
abbrev cX7_hasS : ByteArray := prog_9_method_12_code
def yX7_hasS : MethodName := ⟨RX7, "hasS", "(I)Z"⟩
abbrev cX7_isLoad : ByteArray := prog_9_method_13_code
def yX7_isLoad : MethodName := ⟨RX7, "isLoad", "(I)Z"⟩
abbrev cX7_isStore : ByteArray := prog_9_method_14_code
def yX7_isStore : MethodName := ⟨RX7, "isStore", "(I)Z"⟩
abbrev cX7_isRead : ByteArray := prog_9_method_15_code
def yX7_isRead : MethodName := ⟨RX7, "isRead", "(I)Z"⟩
abbrev cX7_sizeOf : ByteArray := prog_9_method_16_code
def yX7_sizeOf : MethodName := ⟨RX7, "sizeOf", "(I)I"⟩
abbrev cX7_partsOf : ByteArray := prog_9_method_17_code
def yX7_partsOf : MethodName := ⟨RX7, "partsOf", "(I)I"⟩
abbrev cX7_partsOfOp : ByteArray := prog_9_method_18_code
def yX7_partsOfOp : MethodName := ⟨RX7, "partsOfOp", "(I)I"⟩
abbrev cX7_partsOfJump : ByteArray := prog_9_method_19_code
def yX7_partsOfJump : MethodName := ⟨RX7, "partsOfJump", "(I)I"⟩
abbrev cX7_exists : ByteArray := prog_9_method_20_code
def yX7_exists : MethodName := ⟨RX7, "exists", "(J)Z"⟩
abbrev cX7_perform : ByteArray := prog_9_method_21_code
def yX7_perform : MethodName := ⟨RX7, "perform", "(LFilterForge$Machine;II)J"⟩
abbrev cX7_step : ByteArray := prog_9_method_22_code
def yX7_step : MethodName := ⟨RX7, "step", "(LFilterForge$Machine;)V"⟩
abbrev cX7_sideOf : ByteArray := prog_9_method_23_code
def yX7_sideOf : MethodName := ⟨RX7, "sideOf", "(JLFilterForge$Machine;)J"⟩
abbrev cX7_readPacket : ByteArray := prog_9_method_24_code
def yX7_readPacket : MethodName := ⟨RX7, "readPacket", "(JLFilterForge$Machine;)V"⟩
abbrev cX7_useMemory : ByteArray := prog_9_method_25_code
def yX7_useMemory : MethodName := ⟨RX7, "useMemory", "(JLFilterForge$Machine;)V"⟩
abbrev cX8_init : ByteArray := prog_10_method_1_code
def yX8_init : MethodName := ⟨RX8, "<init>", "(LFilterForge$Tape;LFilterForge$Filter;)V"⟩
abbrev cX8_begin : ByteArray := prog_10_method_2_code
def yX8_begin : MethodName := ⟨RX8, "begin", "(LFilterForge$Filter;)V"⟩
abbrev cX8_wrongPlace : ByteArray := prog_10_method_3_code
def yX8_wrongPlace : MethodName := ⟨RX8, "wrongPlace", "()I"⟩
abbrev cX8_fail : ByteArray := prog_10_method_4_code
def yX8_fail : MethodName := ⟨RX8, "fail", "()V"⟩
abbrev cX8_next : ByteArray := prog_10_method_5_code
def yX8_next : MethodName := ⟨RX8, "next", "()V"⟩
abbrev cX8_behindBlanks : ByteArray := prog_10_method_6_code
def yX8_behindBlanks : MethodName := ⟨RX8, "behindBlanks", "(I)I"⟩
abbrev cX8_behindWord : ByteArray := prog_10_method_7_code
def yX8_behindWord : MethodName := ⟨RX8, "behindWord", "(I)I"⟩
abbrev cX8_inWord : ByteArray := prog_10_method_8_code
def yX8_inWord : MethodName := ⟨RX8, "inWord", "(I)Z"⟩
abbrev cX8_isDigit : ByteArray := prog_10_method_9_code
def yX8_isDigit : MethodName := ⟨RX8, "isDigit", "(I)Z"⟩
abbrev cX8_signKind : ByteArray := prog_10_method_10_code
def yX8_signKind : MethodName := ⟨RX8, "signKind", "(II)I"⟩
abbrev cX8_isWord : ByteArray := prog_10_method_11_code
def yX8_isWord : MethodName := ⟨RX8, "isWord", "(Ljava/lang/String;)Z"⟩
abbrev cX8_take : ByteArray := prog_10_method_12_code
def yX8_take : MethodName := ⟨RX8, "take", "(I)V"⟩
abbrev cX8_protocol : ByteArray := prog_10_method_13_code
def yX8_protocol : MethodName := ⟨RX8, "protocol", "()I"⟩
abbrev cX8_number : ByteArray := prog_10_method_14_code
def yX8_number : MethodName := ⟨RX8, "number", "()J"⟩
abbrev cX8_hexadecimal : ByteArray := prog_10_method_15_code
def yX8_hexadecimal : MethodName := ⟨RX8, "hexadecimal", "()J"⟩
abbrev cX8_digits : ByteArray := prog_10_method_16_code
def yX8_digits : MethodName := ⟨RX8, "digits", "(IIJ)J"⟩
abbrev cX8_address : ByteArray := prog_10_method_17_code
def yX8_address : MethodName := ⟨RX8, "address", "()J"⟩
abbrev cX8_dotFrom : ByteArray := prog_10_method_18_code
def yX8_dotFrom : MethodName := ⟨RX8, "dotFrom", "(I)I"⟩
abbrev cX8_takeNumber : ByteArray := prog_10_method_19_code
def yX8_takeNumber : MethodName := ⟨RX8, "takeNumber", "(JJ)I"⟩
abbrev cX8_takeSize : ByteArray := prog_10_method_20_code
def yX8_takeSize : MethodName := ⟨RX8, "takeSize", "()I"⟩
abbrev cX8_takeAddress : ByteArray := prog_10_method_21_code
def yX8_takeAddress : MethodName := ⟨RX8, "takeAddress", "()I"⟩
abbrev cX8_readFilter : ByteArray := prog_10_method_22_code
def yX8_readFilter : MethodName := ⟨RX8, "readFilter", "(III)V"⟩
abbrev cX8_readRow : ByteArray := prog_10_method_23_code
def yX8_readRow : MethodName := ⟨RX8, "readRow", "(III)V"⟩
abbrev cX8_readOne : ByteArray := prog_10_method_24_code
def yX8_readOne : MethodName := ⟨RX8, "readOne", "(III)V"⟩
abbrev cX8_beginsRelation : ByteArray := prog_10_method_25_code
def yX8_beginsRelation : MethodName := ⟨RX8, "beginsRelation", "()Z"⟩
abbrev cX8_readProtocol : ByteArray := prog_10_method_26_code
def yX8_readProtocol : MethodName := ⟨RX8, "readProtocol", "(III)V"⟩
abbrev cX8_readSided : ByteArray := prog_10_method_27_code
def yX8_readSided : MethodName := ⟨RX8, "readSided", "(II)V"⟩
abbrev cX8_readNet : ByteArray := prog_10_method_28_code
def yX8_readNet : MethodName := ⟨RX8, "readNet", "(III)V"⟩
abbrev cX8_readLength : ByteArray := prog_10_method_29_code
def yX8_readLength : MethodName := ⟨RX8, "readLength", "(II)V"⟩
abbrev cX8_readRelation : ByteArray := prog_10_method_30_code
def yX8_readRelation : MethodName := ⟨RX8, "readRelation", "(II)V"⟩
abbrev cX8_comparison : ByteArray := prog_10_method_31_code
def yX8_comparison : MethodName := ⟨RX8, "comparison", "()I"⟩
abbrev cX8_addingOp : ByteArray := prog_10_method_32_code
def yX8_addingOp : MethodName := ⟨RX8, "addingOp", "()I"⟩
abbrev cX8_timesOp : ByteArray := prog_10_method_33_code
def yX8_timesOp : MethodName := ⟨RX8, "timesOp", "()I"⟩
abbrev cX8_readSum : ByteArray := prog_10_method_34_code
def yX8_readSum : MethodName := ⟨RX8, "readSum", "(II)Z"⟩
abbrev cX8_readProduct : ByteArray := prog_10_method_35_code
def yX8_readProduct : MethodName := ⟨RX8, "readProduct", "(II)Z"⟩
abbrev cX8_readAtom : ByteArray := prog_10_method_36_code
def yX8_readAtom : MethodName := ⟨RX8, "readAtom", "(II)Z"⟩
abbrev cX8_readBareAtom : ByteArray := prog_10_method_37_code
def yX8_readBareAtom : MethodName := ⟨RX8, "readBareAtom", "(II)Z"⟩
abbrev cX8_readAccess : ByteArray := prog_10_method_38_code
def yX8_readAccess : MethodName := ⟨RX8, "readAccess", "(II)V"⟩
abbrev cX9_init : ByteArray := prog_11_method_1_code
def yX9_init : MethodName := ⟨RX9, "<init>", "()V"⟩
abbrev cX9_hasRoom : ByteArray := prog_11_method_2_code
def yX9_hasRoom : MethodName := ⟨RX9, "hasRoom", "(I)Z"⟩
abbrev cX9_put : ByteArray := prog_11_method_3_code
def yX9_put : MethodName := ⟨RX9, "put", "(I)V"⟩
abbrev cX9_at : ByteArray := prog_11_method_4_code
def yX9_at : MethodName := ⟨RX9, "at", "(I)I"⟩
abbrev cX9_lowestFirst : ByteArray := prog_11_method_5_code
def yX9_lowestFirst : MethodName := ⟨RX9, "lowestFirst", "(II)J"⟩
abbrev cX10_init : ByteArray := prog_12_method_1_code
def yX10_init : MethodName := ⟨RX10, "<init>", "(LFilterForge$Program;LFilterForge$ObjectCode;)V"⟩
abbrev cX10_turn : ByteArray := prog_12_method_2_code
def yX10_turn : MethodName := ⟨RX10, "turn", "(LFilterForge$Program;)I"⟩
abbrev cX10_turnAll : ByteArray := prog_12_method_3_code
def yX10_turnAll : MethodName := ⟨RX10, "turnAll", "()V"⟩
abbrev cX10_turnOne : ByteArray := prog_12_method_4_code
def yX10_turnOne : MethodName := ⟨RX10, "turnOne", "(I)V"⟩
abbrev cX10_put : ByteArray := prog_12_method_5_code
def yX10_put : MethodName := ⟨RX10, "put", "(I)V"⟩
abbrev cX10_placeOf : ByteArray := prog_12_method_6_code
def yX10_placeOf : MethodName := ⟨RX10, "placeOf", "(I)I"⟩
abbrev cX10_putOp : ByteArray := prog_12_method_7_code
def yX10_putOp : MethodName := ⟨RX10, "putOp", "(IIIIII)V"⟩
abbrev cX10_putImm : ByteArray := prog_12_method_8_code
def yX10_putImm : MethodName := ⟨RX10, "putImm", "(IIIII)V"⟩
abbrev cX10_putAdd : ByteArray := prog_12_method_9_code
def yX10_putAdd : MethodName := ⟨RX10, "putAdd", "(III)V"⟩
abbrev cX10_putBranch : ByteArray := prog_12_method_10_code
def yX10_putBranch : MethodName := ⟨RX10, "putBranch", "(IIII)V"⟩
abbrev cX10_putStore : ByteArray := prog_12_method_11_code
def yX10_putStore : MethodName := ⟨RX10, "putStore", "(III)V"⟩
abbrev cX10_putGoing : ByteArray := prog_12_method_12_code
def yX10_putGoing : MethodName := ⟨RX10, "putGoing", "(I)V"⟩
abbrev cX10_putNumber : ByteArray := prog_12_method_13_code
def yX10_putNumber : MethodName := ⟨RX10, "putNumber", "(II)V"⟩
abbrev cX10_putCut : ByteArray := prog_12_method_14_code
def yX10_putCut : MethodName := ⟨RX10, "putCut", "(I)V"⟩
abbrev cX10_putSide : ByteArray := prog_12_method_15_code
def yX10_putSide : MethodName := ⟨RX10, "putSide", "(J)I"⟩
abbrev cX10_turnOp : ByteArray := prog_12_method_16_code
def yX10_turnOp : MethodName := ⟨RX10, "turnOp", "(J)V"⟩
abbrev cX10_turnDivision : ByteArray := prog_12_method_17_code
def yX10_turnDivision : MethodName := ⟨RX10, "turnDivision", "(ZII)V"⟩
abbrev cX10_turnJump : ByteArray := prog_12_method_18_code
def yX10_turnJump : MethodName := ⟨RX10, "turnJump", "(JI)V"⟩
abbrev cX10_putPassing : ByteArray := prog_12_method_19_code
def yX10_putPassing : MethodName := ⟨RX10, "putPassing", "(III)V"⟩
abbrev cX10_turnMemory : ByteArray := prog_12_method_20_code
def yX10_turnMemory : MethodName := ⟨RX10, "turnMemory", "(J)V"⟩
abbrev cX10_turnRead : ByteArray := prog_12_method_21_code
def yX10_turnRead : MethodName := ⟨RX10, "turnRead", "(J)V"⟩
abbrev cX11_init : ByteArray := prog_1_method_1_code
def yX11_init : MethodName := ⟨RX11, "<init>", "()V"⟩
abbrev cX11_feed : ByteArray := prog_1_method_2_code
def yX11_feed : MethodName := ⟨RX11, "feed", "(IIIII)I"⟩
abbrev cX11_end : ByteArray := prog_1_method_3_code
def yX11_end : MethodName := ⟨RX11, "end", "(I)I"⟩
abbrev cX11_packet : ByteArray := prog_1_method_4_code
def yX11_packet : MethodName := ⟨RX11, "packet", "()I"⟩
abbrev cX11_bytes : ByteArray := prog_1_method_5_code
def yX11_bytes : MethodName := ⟨RX11, "bytes", "(II)J"⟩
abbrev cX11_compile : ByteArray := prog_1_method_6_code
def yX11_compile : MethodName := ⟨RX11, "compile", "()I"⟩
abbrev cX11_swapSpares : ByteArray := prog_1_method_7_code
def yX11_swapSpares : MethodName := ⟨RX11, "swapSpares", "()V"⟩
abbrev cX11_load : ByteArray := prog_1_method_8_code
def yX11_load : MethodName := ⟨RX11, "load", "()I"⟩
abbrev cX11_instruction : ByteArray := prog_1_method_9_code
def yX11_instruction : MethodName := ⟨RX11, "instruction", "(I)J"⟩
abbrev cX11_verify : ByteArray := prog_1_method_10_code
def yX11_verify : MethodName := ⟨RX11, "verify", "()I"⟩
abbrev cX11_known : ByteArray := prog_1_method_11_code
def yX11_known : MethodName := ⟨RX11, "known", "(III)J"⟩
abbrev cX11_run : ByteArray := prog_1_method_12_code
def yX11_run : MethodName := ⟨RX11, "run", "(I)J"⟩
abbrev cX11_translate : ByteArray := prog_1_method_13_code
def yX11_translate : MethodName := ⟨RX11, "translate", "()I"⟩
abbrev cX11_raw : ByteArray := prog_1_method_14_code
def yX11_raw : MethodName := ⟨RX11, "raw", "()I"⟩
abbrev cX11_word : ByteArray := prog_1_method_15_code
def yX11_word : MethodName := ⟨RX11, "word", "(I)I"⟩
abbrev cX11_emulate : ByteArray := prog_1_method_16_code
def yX11_emulate : MethodName := ⟨RX11, "emulate", "(I)J"⟩
abbrev cX11_ended : ByteArray := prog_1_method_17_code
def yX11_ended : MethodName := ⟨RX11, "ended", "(I)I"⟩
abbrev cX11_register : ByteArray := prog_1_method_18_code
def yX11_register : MethodName := ⟨RX11, "register", "(I)J"⟩
abbrev cX11_stack : ByteArray := prog_1_method_19_code
def yX11_stack : MethodName := ⟨RX11, "stack", "(I)I"⟩
abbrev cX11_matches : ByteArray := prog_1_method_20_code
def yX11_matches : MethodName := ⟨RX11, "matches", "()I"⟩
abbrev cX11_count : ByteArray := prog_1_method_21_code
def yX11_count : MethodName := ⟨RX11, "count", "(I)I"⟩
abbrev cX11_below : ByteArray := prog_1_method_22_code
def yX11_below : MethodName := ⟨RX11, "below", "(JJ)Z"⟩
abbrev cX11_lesser : ByteArray := prog_1_method_23_code
def yX11_lesser : MethodName := ⟨RX11, "lesser", "(JJ)J"⟩
abbrev cX11_greater : ByteArray := prog_1_method_24_code
def yX11_greater : MethodName := ⟨RX11, "greater", "(JJ)J"⟩
abbrev cX11_quotient : ByteArray := prog_1_method_25_code
def yX11_quotient : MethodName := ⟨RX11, "quotient", "(JJ)J"⟩
abbrev cX11_worked : ByteArray := prog_1_method_26_code
def yX11_worked : MethodName := ⟨RX11, "worked", "(IZJJ)J"⟩
abbrev cX11_holds : ByteArray := prog_1_method_27_code
def yX11_holds : MethodName := ⟨RX11, "holds", "(IZJJ)Z"⟩
abbrev cX11_otherOp : ByteArray := prog_1_method_28_code
def yX11_otherOp : MethodName := ⟨RX11, "otherOp", "(I)I"⟩
theorem mhX0_init : (yX0_init.cls ≠ "java/lang/invoke/MethodHandle" ∧ yX0_init.cls ≠ "java/lang/invoke/VarHandle" ∧ (parseMethodDescriptor yX0_init.desc).map (fun d => d.parameters.length) = some 2) := by decide +kernel
theorem mhX0_code : (yX0_code.cls ≠ "java/lang/invoke/MethodHandle" ∧ yX0_code.cls ≠ "java/lang/invoke/VarHandle" ∧ (parseMethodDescriptor yX0_code.desc).map (fun d => d.parameters.length) = some 2) := by decide +kernel
theorem mhX0_put : (yX0_put.cls ≠ "java/lang/invoke/MethodHandle" ∧ yX0_put.cls ≠ "java/lang/invoke/VarHandle" ∧ (parseMethodDescriptor yX0_put.desc).map (fun d => d.parameters.length) = some 5) := by decide +kernel
theorem mhX0_putGoing : (yX0_putGoing.cls ≠ "java/lang/invoke/MethodHandle" ∧ yX0_putGoing.cls ≠ "java/lang/invoke/VarHandle" ∧ (parseMethodDescriptor yX0_putGoing.desc).map (fun d => d.parameters.length) = some 5) := by decide +kernel
theorem mhX0_placeGoals : (yX0_placeGoals.cls ≠ "java/lang/invoke/MethodHandle" ∧ yX0_placeGoals.cls ≠ "java/lang/invoke/VarHandle" ∧ (parseMethodDescriptor yX0_placeGoals.desc).map (fun d => d.parameters.length) = some 0) := by decide +kernel
theorem mhX0_rightIsNumber : (yX0_rightIsNumber.cls ≠ "java/lang/invoke/MethodHandle" ∧ yX0_rightIsNumber.cls ≠ "java/lang/invoke/VarHandle" ∧ (parseMethodDescriptor yX0_rightIsNumber.desc).map (fun d => d.parameters.length) = some 1) := by decide +kernel
theorem mhX0_codeTest : (yX0_codeTest.cls ≠ "java/lang/invoke/MethodHandle" ∧ yX0_codeTest.cls ≠ "java/lang/invoke/VarHandle" ∧ (parseMethodDescriptor yX0_codeTest.desc).map (fun d => d.parameters.length) = some 1) := by decide +kernel
theorem mhX0_codeWays : (yX0_codeWays.cls ≠ "java/lang/invoke/MethodHandle" ∧ yX0_codeWays.cls ≠ "java/lang/invoke/VarHandle" ∧ (parseMethodDescriptor yX0_codeWays.desc).map (fun d => d.parameters.length) = some 1) := by decide +kernel
theorem mhX0_nextKept : (yX0_nextKept.cls ≠ "java/lang/invoke/MethodHandle" ∧ yX0_nextKept.cls ≠ "java/lang/invoke/VarHandle" ∧ (parseMethodDescriptor yX0_nextKept.desc).map (fun d => d.parameters.length) = some 1) := by decide +kernel
theorem mhX0_codeItems : (yX0_codeItems.cls ≠ "java/lang/invoke/MethodHandle" ∧ yX0_codeItems.cls ≠ "java/lang/invoke/VarHandle" ∧ (parseMethodDescriptor yX0_codeItems.desc).map (fun d => d.parameters.length) = some 2) := by decide +kernel
theorem mhX0_codeItem : (yX0_codeItem.cls ≠ "java/lang/invoke/MethodHandle" ∧ yX0_codeItem.cls ≠ "java/lang/invoke/VarHandle" ∧ (parseMethodDescriptor yX0_codeItem.desc).map (fun d => d.parameters.length) = some 3) := by decide +kernel
theorem mhX0_readCode : (yX0_readCode.cls ≠ "java/lang/invoke/MethodHandle" ∧ yX0_readCode.cls ≠ "java/lang/invoke/VarHandle" ∧ (parseMethodDescriptor yX0_readCode.desc).map (fun d => d.parameters.length) = some 1) := by decide +kernel
theorem mhX0_slot : (yX0_slot.cls ≠ "java/lang/invoke/MethodHandle" ∧ yX0_slot.cls ≠ "java/lang/invoke/VarHandle" ∧ (parseMethodDescriptor yX0_slot.desc).map (fun d => d.parameters.length) = some 1) := by decide +kernel
theorem mhX0_codePush : (yX0_codePush.cls ≠ "java/lang/invoke/MethodHandle" ∧ yX0_codePush.cls ≠ "java/lang/invoke/VarHandle" ∧ (parseMethodDescriptor yX0_codePush.desc).map (fun d => d.parameters.length) = some 1) := by decide +kernel
theorem mhX0_codePull : (yX0_codePull.cls ≠ "java/lang/invoke/MethodHandle" ∧ yX0_codePull.cls ≠ "java/lang/invoke/VarHandle" ∧ (parseMethodDescriptor yX0_codePull.desc).map (fun d => d.parameters.length) = some 1) := by decide +kernel
theorem mhX0_codeWithNumber : (yX0_codeWithNumber.cls ≠ "java/lang/invoke/MethodHandle" ∧ yX0_codeWithNumber.cls ≠ "java/lang/invoke/VarHandle" ∧ (parseMethodDescriptor yX0_codeWithNumber.desc).map (fun d => d.parameters.length) = some 2) := by decide +kernel
theorem mhX0_codeWithPushed : (yX0_codeWithPushed.cls ≠ "java/lang/invoke/MethodHandle" ∧ yX0_codeWithPushed.cls ≠ "java/lang/invoke/VarHandle" ∧ (parseMethodDescriptor yX0_codeWithPushed.desc).map (fun d => d.parameters.length) = some 2) := by decide +kernel
theorem mhX0_codeReadInBody : (yX0_codeReadInBody.cls ≠ "java/lang/invoke/MethodHandle" ∧ yX0_codeReadInBody.cls ≠ "java/lang/invoke/VarHandle" ∧ (parseMethodDescriptor yX0_codeReadInBody.desc).map (fun d => d.parameters.length) = some 2) := by decide +kernel
theorem mhX1_init : (yX1_init.cls ≠ "java/lang/invoke/MethodHandle" ∧ yX1_init.cls ≠ "java/lang/invoke/VarHandle" ∧ (parseMethodDescriptor yX1_init.desc).map (fun d => d.parameters.length) = some 0) := by decide +kernel
theorem mhX1_lose : (yX1_lose.cls ≠ "java/lang/invoke/MethodHandle" ∧ yX1_lose.cls ≠ "java/lang/invoke/VarHandle" ∧ (parseMethodDescriptor yX1_lose.desc).map (fun d => d.parameters.length) = some 0) := by decide +kernel
theorem mhX1_copy : (yX1_copy.cls ≠ "java/lang/invoke/MethodHandle" ∧ yX1_copy.cls ≠ "java/lang/invoke/VarHandle" ∧ (parseMethodDescriptor yX1_copy.desc).map (fun d => d.parameters.length) = some 1) := by decide +kernel
theorem mhX1_setExact : (yX1_setExact.cls ≠ "java/lang/invoke/MethodHandle" ∧ yX1_setExact.cls ≠ "java/lang/invoke/VarHandle" ∧ (parseMethodDescriptor yX1_setExact.desc).map (fun d => d.parameters.length) = some 1) := by decide +kernel
theorem mhX1_setRange : (yX1_setRange.cls ≠ "java/lang/invoke/MethodHandle" ∧ yX1_setRange.cls ≠ "java/lang/invoke/VarHandle" ∧ (parseMethodDescriptor yX1_setRange.desc).map (fun d => d.parameters.length) = some 2) := by decide +kernel
theorem mhX1_setBytes : (yX1_setBytes.cls ≠ "java/lang/invoke/MethodHandle" ∧ yX1_setBytes.cls ≠ "java/lang/invoke/VarHandle" ∧ (parseMethodDescriptor yX1_setBytes.desc).map (fun d => d.parameters.length) = some 1) := by decide +kernel
theorem mhX1_isExact : (yX1_isExact.cls ≠ "java/lang/invoke/MethodHandle" ∧ yX1_isExact.cls ≠ "java/lang/invoke/VarHandle" ∧ (parseMethodDescriptor yX1_isExact.desc).map (fun d => d.parameters.length) = some 0) := by decide +kernel
theorem mhX1_settle : (yX1_settle.cls ≠ "java/lang/invoke/MethodHandle" ∧ yX1_settle.cls ≠ "java/lang/invoke/VarHandle" ∧ (parseMethodDescriptor yX1_settle.desc).map (fun d => d.parameters.length) = some 0) := by decide +kernel
theorem mhX1_cut : (yX1_cut.cls ≠ "java/lang/invoke/MethodHandle" ∧ yX1_cut.cls ≠ "java/lang/invoke/VarHandle" ∧ (parseMethodDescriptor yX1_cut.desc).map (fun d => d.parameters.length) = some 0) := by decide +kernel
theorem mhX1_work : (yX1_work.cls ≠ "java/lang/invoke/MethodHandle" ∧ yX1_work.cls ≠ "java/lang/invoke/VarHandle" ∧ (parseMethodDescriptor yX1_work.desc).map (fun d => d.parameters.length) = some 3) := by decide +kernel
theorem mhX1_workBits : (yX1_workBits.cls ≠ "java/lang/invoke/MethodHandle" ∧ yX1_workBits.cls ≠ "java/lang/invoke/VarHandle" ∧ (parseMethodDescriptor yX1_workBits.desc).map (fun d => d.parameters.length) = some 3) := by decide +kernel
theorem mhX1_addBits : (yX1_addBits.cls ≠ "java/lang/invoke/MethodHandle" ∧ yX1_addBits.cls ≠ "java/lang/invoke/VarHandle" ∧ (parseMethodDescriptor yX1_addBits.desc).map (fun d => d.parameters.length) = some 1) := by decide +kernel
theorem mhX1_takeBits : (yX1_takeBits.cls ≠ "java/lang/invoke/MethodHandle" ∧ yX1_takeBits.cls ≠ "java/lang/invoke/VarHandle" ∧ (parseMethodDescriptor yX1_takeBits.desc).map (fun d => d.parameters.length) = some 1) := by decide +kernel
theorem mhX1_shiftBits : (yX1_shiftBits.cls ≠ "java/lang/invoke/MethodHandle" ∧ yX1_shiftBits.cls ≠ "java/lang/invoke/VarHandle" ∧ (parseMethodDescriptor yX1_shiftBits.desc).map (fun d => d.parameters.length) = some 3) := by decide +kernel
theorem mhX1_isUnsigned : (yX1_isUnsigned.cls ≠ "java/lang/invoke/MethodHandle" ∧ yX1_isUnsigned.cls ≠ "java/lang/invoke/VarHandle" ∧ (parseMethodDescriptor yX1_isUnsigned.desc).map (fun d => d.parameters.length) = some 1) := by decide +kernel
theorem mhX1_workRange : (yX1_workRange.cls ≠ "java/lang/invoke/MethodHandle" ∧ yX1_workRange.cls ≠ "java/lang/invoke/VarHandle" ∧ (parseMethodDescriptor yX1_workRange.desc).map (fun d => d.parameters.length) = some 3) := by decide +kernel
theorem mhX1_keepRange : (yX1_keepRange.cls ≠ "java/lang/invoke/MethodHandle" ∧ yX1_keepRange.cls ≠ "java/lang/invoke/VarHandle" ∧ (parseMethodDescriptor yX1_keepRange.desc).map (fun d => d.parameters.length) = some 3) := by decide +kernel
theorem mhX1_filled : (yX1_filled.cls ≠ "java/lang/invoke/MethodHandle" ∧ yX1_filled.cls ≠ "java/lang/invoke/VarHandle" ∧ (parseMethodDescriptor yX1_filled.desc).map (fun d => d.parameters.length) = some 1) := by decide +kernel
theorem mhX1_narrow : (yX1_narrow.cls ≠ "java/lang/invoke/MethodHandle" ∧ yX1_narrow.cls ≠ "java/lang/invoke/VarHandle" ∧ (parseMethodDescriptor yX1_narrow.desc).map (fun d => d.parameters.length) = some 2) := by decide +kernel
theorem mhX1_narrowUnequal : (yX1_narrowUnequal.cls ≠ "java/lang/invoke/MethodHandle" ∧ yX1_narrowUnequal.cls ≠ "java/lang/invoke/VarHandle" ∧ (parseMethodDescriptor yX1_narrowUnequal.desc).map (fun d => d.parameters.length) = some 1) := by decide +kernel
theorem mhX2_init : (yX2_init.cls ≠ "java/lang/invoke/MethodHandle" ∧ yX2_init.cls ≠ "java/lang/invoke/VarHandle" ∧ (parseMethodDescriptor yX2_init.desc).map (fun d => d.parameters.length) = some 0) := by decide +kernel
theorem mhX2_clear : (yX2_clear.cls ≠ "java/lang/invoke/MethodHandle" ∧ yX2_clear.cls ≠ "java/lang/invoke/VarHandle" ∧ (parseMethodDescriptor yX2_clear.desc).map (fun d => d.parameters.length) = some 0) := by decide +kernel
theorem mhX2_newLabel : (yX2_newLabel.cls ≠ "java/lang/invoke/MethodHandle" ∧ yX2_newLabel.cls ≠ "java/lang/invoke/VarHandle" ∧ (parseMethodDescriptor yX2_newLabel.desc).map (fun d => d.parameters.length) = some 0) := by decide +kernel
theorem mhX2_putLabelHere : (yX2_putLabelHere.cls ≠ "java/lang/invoke/MethodHandle" ∧ yX2_putLabelHere.cls ≠ "java/lang/invoke/VarHandle" ∧ (parseMethodDescriptor yX2_putLabelHere.desc).map (fun d => d.parameters.length) = some 1) := by decide +kernel
theorem mhX2_joinLabel : (yX2_joinLabel.cls ≠ "java/lang/invoke/MethodHandle" ∧ yX2_joinLabel.cls ≠ "java/lang/invoke/VarHandle" ∧ (parseMethodDescriptor yX2_joinLabel.desc).map (fun d => d.parameters.length) = some 2) := by decide +kernel
theorem mhX2_item : (yX2_item.cls ≠ "java/lang/invoke/MethodHandle" ∧ yX2_item.cls ≠ "java/lang/invoke/VarHandle" ∧ (parseMethodDescriptor yX2_item.desc).map (fun d => d.parameters.length) = some 3) := by decide +kernel
theorem mhX2_joinSides : (yX2_joinSides.cls ≠ "java/lang/invoke/MethodHandle" ∧ yX2_joinSides.cls ≠ "java/lang/invoke/VarHandle" ∧ (parseMethodDescriptor yX2_joinSides.desc).map (fun d => d.parameters.length) = some 4) := by decide +kernel
theorem mhX2_hideNumber : (yX2_hideNumber.cls ≠ "java/lang/invoke/MethodHandle" ∧ yX2_hideNumber.cls ≠ "java/lang/invoke/VarHandle" ∧ (parseMethodDescriptor yX2_hideNumber.desc).map (fun d => d.parameters.length) = some 0) := by decide +kernel
theorem mhX2_askNothing : (yX2_askNothing.cls ≠ "java/lang/invoke/MethodHandle" ∧ yX2_askNothing.cls ≠ "java/lang/invoke/VarHandle" ∧ (parseMethodDescriptor yX2_askNothing.desc).map (fun d => d.parameters.length) = some 0) := by decide +kernel
theorem mhX2_ask : (yX2_ask.cls ≠ "java/lang/invoke/MethodHandle" ∧ yX2_ask.cls ≠ "java/lang/invoke/VarHandle" ∧ (parseMethodDescriptor yX2_ask.desc).map (fun d => d.parameters.length) = some 1) := by decide +kernel
theorem mhX2_access : (yX2_access.cls ≠ "java/lang/invoke/MethodHandle" ∧ yX2_access.cls ≠ "java/lang/invoke/VarHandle" ∧ (parseMethodDescriptor yX2_access.desc).map (fun d => d.parameters.length) = some 4) := by decide +kernel
theorem mhX2_test : (yX2_test.cls ≠ "java/lang/invoke/MethodHandle" ∧ yX2_test.cls ≠ "java/lang/invoke/VarHandle" ∧ (parseMethodDescriptor yX2_test.desc).map (fun d => d.parameters.length) = some 6) := by decide +kernel
theorem mhX2_testNumber : (yX2_testNumber.cls ≠ "java/lang/invoke/MethodHandle" ∧ yX2_testNumber.cls ≠ "java/lang/invoke/VarHandle" ∧ (parseMethodDescriptor yX2_testNumber.desc).map (fun d => d.parameters.length) = some 5) := by decide +kernel
theorem mhX2_testRead : (yX2_testRead.cls ≠ "java/lang/invoke/MethodHandle" ∧ yX2_testRead.cls ≠ "java/lang/invoke/VarHandle" ∧ (parseMethodDescriptor yX2_testRead.desc).map (fun d => d.parameters.length) = some 5) := by decide +kernel
theorem mhX2_testType : (yX2_testType.cls ≠ "java/lang/invoke/MethodHandle" ∧ yX2_testType.cls ≠ "java/lang/invoke/VarHandle" ∧ (parseMethodDescriptor yX2_testType.desc).map (fun d => d.parameters.length) = some 3) := by decide +kernel
theorem mhX2_testByte : (yX2_testByte.cls ≠ "java/lang/invoke/MethodHandle" ∧ yX2_testByte.cls ≠ "java/lang/invoke/VarHandle" ∧ (parseMethodDescriptor yX2_testByte.desc).map (fun d => d.parameters.length) = some 4) := by decide +kernel
theorem mhX2_testFirstPart : (yX2_testFirstPart.cls ≠ "java/lang/invoke/MethodHandle" ∧ yX2_testFirstPart.cls ≠ "java/lang/invoke/VarHandle" ∧ (parseMethodDescriptor yX2_testFirstPart.desc).map (fun d => d.parameters.length) = some 2) := by decide +kernel
theorem mhX2_testLength : (yX2_testLength.cls ≠ "java/lang/invoke/MethodHandle" ∧ yX2_testLength.cls ≠ "java/lang/invoke/VarHandle" ∧ (parseMethodDescriptor yX2_testLength.desc).map (fun d => d.parameters.length) = some 4) := by decide +kernel
theorem mhX2_numberOf : (yX2_numberOf.cls ≠ "java/lang/invoke/MethodHandle" ∧ yX2_numberOf.cls ≠ "java/lang/invoke/VarHandle" ∧ (parseMethodDescriptor yX2_numberOf.desc).map (fun d => d.parameters.length) = some 1) := by decide +kernel
theorem mhX2_testProtocol : (yX2_testProtocol.cls ≠ "java/lang/invoke/MethodHandle" ∧ yX2_testProtocol.cls ≠ "java/lang/invoke/VarHandle" ∧ (parseMethodDescriptor yX2_testProtocol.desc).map (fun d => d.parameters.length) = some 3) := by decide +kernel
theorem mhX2_testGuards : (yX2_testGuards.cls ≠ "java/lang/invoke/MethodHandle" ∧ yX2_testGuards.cls ≠ "java/lang/invoke/VarHandle" ∧ (parseMethodDescriptor yX2_testGuards.desc).map (fun d => d.parameters.length) = some 1) := by decide +kernel
theorem mhX2_testAddress : (yX2_testAddress.cls ≠ "java/lang/invoke/MethodHandle" ∧ yX2_testAddress.cls ≠ "java/lang/invoke/VarHandle" ∧ (parseMethodDescriptor yX2_testAddress.desc).map (fun d => d.parameters.length) = some 6) := by decide +kernel
theorem mhX2_testAddressAt : (yX2_testAddressAt.cls ≠ "java/lang/invoke/MethodHandle" ∧ yX2_testAddressAt.cls ≠ "java/lang/invoke/VarHandle" ∧ (parseMethodDescriptor yX2_testAddressAt.desc).map (fun d => d.parameters.length) = some 6) := by decide +kernel
theorem mhX2_testPorts : (yX2_testPorts.cls ≠ "java/lang/invoke/MethodHandle" ∧ yX2_testPorts.cls ≠ "java/lang/invoke/VarHandle" ∧ (parseMethodDescriptor yX2_testPorts.desc).map (fun d => d.parameters.length) = some 5) := by decide +kernel
theorem mhX2_testSides : (yX2_testSides.cls ≠ "java/lang/invoke/MethodHandle" ∧ yX2_testSides.cls ≠ "java/lang/invoke/VarHandle" ∧ (parseMethodDescriptor yX2_testSides.desc).map (fun d => d.parameters.length) = some 6) := by decide +kernel
theorem mhX2_testPort : (yX2_testPort.cls ≠ "java/lang/invoke/MethodHandle" ∧ yX2_testPort.cls ≠ "java/lang/invoke/VarHandle" ∧ (parseMethodDescriptor yX2_testPort.desc).map (fun d => d.parameters.length) = some 5) := by decide +kernel
theorem mhX2_portItems : (yX2_portItems.cls ≠ "java/lang/invoke/MethodHandle" ∧ yX2_portItems.cls ≠ "java/lang/invoke/VarHandle" ∧ (parseMethodDescriptor yX2_portItems.desc).map (fun d => d.parameters.length) = some 1) := by decide +kernel
theorem mhX2_finish : (yX2_finish.cls ≠ "java/lang/invoke/MethodHandle" ∧ yX2_finish.cls ≠ "java/lang/invoke/VarHandle" ∧ (parseMethodDescriptor yX2_finish.desc).map (fun d => d.parameters.length) = some 0) := by decide +kernel
theorem mhX2_placeWays : (yX2_placeWays.cls ≠ "java/lang/invoke/MethodHandle" ∧ yX2_placeWays.cls ≠ "java/lang/invoke/VarHandle" ∧ (parseMethodDescriptor yX2_placeWays.desc).map (fun d => d.parameters.length) = some 0) := by decide +kernel
theorem mhX2_placeOf : (yX2_placeOf.cls ≠ "java/lang/invoke/MethodHandle" ∧ yX2_placeOf.cls ≠ "java/lang/invoke/VarHandle" ∧ (parseMethodDescriptor yX2_placeOf.desc).map (fun d => d.parameters.length) = some 2) := by decide +kernel
theorem mhX2_shortened : (yX2_shortened.cls ≠ "java/lang/invoke/MethodHandle" ∧ yX2_shortened.cls ≠ "java/lang/invoke/VarHandle" ∧ (parseMethodDescriptor yX2_shortened.desc).map (fun d => d.parameters.length) = some 2) := by decide +kernel
theorem mhX2_told : (yX2_told.cls ≠ "java/lang/invoke/MethodHandle" ∧ yX2_told.cls ≠ "java/lang/invoke/VarHandle" ∧ (parseMethodDescriptor yX2_told.desc).map (fun d => d.parameters.length) = some 1) := by decide +kernel
theorem mhX2_readsAlike : (yX2_readsAlike.cls ≠ "java/lang/invoke/MethodHandle" ∧ yX2_readsAlike.cls ≠ "java/lang/invoke/VarHandle" ∧ (parseMethodDescriptor yX2_readsAlike.desc).map (fun d => d.parameters.length) = some 2) := by decide +kernel
theorem mhX2_placeRead : (yX2_placeRead.cls ≠ "java/lang/invoke/MethodHandle" ∧ yX2_placeRead.cls ≠ "java/lang/invoke/VarHandle" ∧ (parseMethodDescriptor yX2_placeRead.desc).map (fun d => d.parameters.length) = some 1) := by decide +kernel
theorem mhX2_leaveOut : (yX2_leaveOut.cls ≠ "java/lang/invoke/MethodHandle" ∧ yX2_leaveOut.cls ≠ "java/lang/invoke/VarHandle" ∧ (parseMethodDescriptor yX2_leaveOut.desc).map (fun d => d.parameters.length) = some 0) := by decide +kernel
theorem mhX2_says : (yX2_says.cls ≠ "java/lang/invoke/MethodHandle" ∧ yX2_says.cls ≠ "java/lang/invoke/VarHandle" ∧ (parseMethodDescriptor yX2_says.desc).map (fun d => d.parameters.length) = some 2) := by decide +kernel
theorem mhX2_value : (yX2_value.cls ≠ "java/lang/invoke/MethodHandle" ∧ yX2_value.cls ≠ "java/lang/invoke/VarHandle" ∧ (parseMethodDescriptor yX2_value.desc).map (fun d => d.parameters.length) = some 4) := by decide +kernel
theorem mhX2_joined : (yX2_joined.cls ≠ "java/lang/invoke/MethodHandle" ∧ yX2_joined.cls ≠ "java/lang/invoke/VarHandle" ∧ (parseMethodDescriptor yX2_joined.desc).map (fun d => d.parameters.length) = some 3) := by decide +kernel
theorem mhX2_readInBody : (yX2_readInBody.cls ≠ "java/lang/invoke/MethodHandle" ∧ yX2_readInBody.cls ≠ "java/lang/invoke/VarHandle" ∧ (parseMethodDescriptor yX2_readInBody.desc).map (fun d => d.parameters.length) = some 4) := by decide +kernel
theorem mhX3_init : (yX3_init.cls ≠ "java/lang/invoke/MethodHandle" ∧ yX3_init.cls ≠ "java/lang/invoke/VarHandle" ∧ (parseMethodDescriptor yX3_init.desc).map (fun d => d.parameters.length) = some 1) := by decide +kernel
theorem mhX3_look : (yX3_look.cls ≠ "java/lang/invoke/MethodHandle" ∧ yX3_look.cls ≠ "java/lang/invoke/VarHandle" ∧ (parseMethodDescriptor yX3_look.desc).map (fun d => d.parameters.length) = some 1) := by decide +kernel
theorem mhX3_tell : (yX3_tell.cls ≠ "java/lang/invoke/MethodHandle" ∧ yX3_tell.cls ≠ "java/lang/invoke/VarHandle" ∧ (parseMethodDescriptor yX3_tell.desc).map (fun d => d.parameters.length) = some 3) := by decide +kernel
theorem mhX3_firstUnfit : (yX3_firstUnfit.cls ≠ "java/lang/invoke/MethodHandle" ∧ yX3_firstUnfit.cls ≠ "java/lang/invoke/VarHandle" ∧ (parseMethodDescriptor yX3_firstUnfit.desc).map (fun d => d.parameters.length) = some 0) := by decide +kernel
theorem mhX3_goesAstray : (yX3_goesAstray.cls ≠ "java/lang/invoke/MethodHandle" ∧ yX3_goesAstray.cls ≠ "java/lang/invoke/VarHandle" ∧ (parseMethodDescriptor yX3_goesAstray.desc).map (fun d => d.parameters.length) = some 2) := by decide +kernel
theorem mhX3_makeRoom : (yX3_makeRoom.cls ≠ "java/lang/invoke/MethodHandle" ∧ yX3_makeRoom.cls ≠ "java/lang/invoke/VarHandle" ∧ (parseMethodDescriptor yX3_makeRoom.desc).map (fun d => d.parameters.length) = some 0) := by decide +kernel
theorem mhX3_begin : (yX3_begin.cls ≠ "java/lang/invoke/MethodHandle" ∧ yX3_begin.cls ≠ "java/lang/invoke/VarHandle" ∧ (parseMethodDescriptor yX3_begin.desc).map (fun d => d.parameters.length) = some 0) := by decide +kernel
theorem mhX3_bring : (yX3_bring.cls ≠ "java/lang/invoke/MethodHandle" ∧ yX3_bring.cls ≠ "java/lang/invoke/VarHandle" ∧ (parseMethodDescriptor yX3_bring.desc).map (fun d => d.parameters.length) = some 1) := by decide +kernel
theorem mhX3_arrive : (yX3_arrive.cls ≠ "java/lang/invoke/MethodHandle" ∧ yX3_arrive.cls ≠ "java/lang/invoke/VarHandle" ∧ (parseMethodDescriptor yX3_arrive.desc).map (fun d => d.parameters.length) = some 1) := by decide +kernel
theorem mhX3_put : (yX3_put.cls ≠ "java/lang/invoke/MethodHandle" ∧ yX3_put.cls ≠ "java/lang/invoke/VarHandle" ∧ (parseMethodDescriptor yX3_put.desc).map (fun d => d.parameters.length) = some 6) := by decide +kernel
theorem mhX3_isLost : (yX3_isLost.cls ≠ "java/lang/invoke/MethodHandle" ∧ yX3_isLost.cls ≠ "java/lang/invoke/VarHandle" ∧ (parseMethodDescriptor yX3_isLost.desc).map (fun d => d.parameters.length) = some 1) := by decide +kernel
theorem mhX3_isPointer : (yX3_isPointer.cls ≠ "java/lang/invoke/MethodHandle" ∧ yX3_isPointer.cls ≠ "java/lang/invoke/VarHandle" ∧ (parseMethodDescriptor yX3_isPointer.desc).map (fun d => d.parameters.length) = some 1) := by decide +kernel
theorem mhX3_offenceOf : (yX3_offenceOf.cls ≠ "java/lang/invoke/MethodHandle" ∧ yX3_offenceOf.cls ≠ "java/lang/invoke/VarHandle" ∧ (parseMethodDescriptor yX3_offenceOf.desc).map (fun d => d.parameters.length) = some 1) := by decide +kernel
theorem mhX3_offenceOfUse : (yX3_offenceOfUse.cls ≠ "java/lang/invoke/MethodHandle" ∧ yX3_offenceOfUse.cls ≠ "java/lang/invoke/VarHandle" ∧ (parseMethodDescriptor yX3_offenceOfUse.desc).map (fun d => d.parameters.length) = some 2) := by decide +kernel
theorem mhX3_offenceOfOp : (yX3_offenceOfOp.cls ≠ "java/lang/invoke/MethodHandle" ∧ yX3_offenceOfOp.cls ≠ "java/lang/invoke/VarHandle" ∧ (parseMethodDescriptor yX3_offenceOfOp.desc).map (fun d => d.parameters.length) = some 3) := by decide +kernel
theorem mhX3_offenceOfMemory : (yX3_offenceOfMemory.cls ≠ "java/lang/invoke/MethodHandle" ∧ yX3_offenceOfMemory.cls ≠ "java/lang/invoke/VarHandle" ∧ (parseMethodDescriptor yX3_offenceOfMemory.desc).map (fun d => d.parameters.length) = some 2) := by decide +kernel
theorem mhX3_bytesFrom : (yX3_bytesFrom.cls ≠ "java/lang/invoke/MethodHandle" ∧ yX3_bytesFrom.cls ≠ "java/lang/invoke/VarHandle" ∧ (parseMethodDescriptor yX3_bytesFrom.desc).map (fun d => d.parameters.length) = some 1) := by decide +kernel
theorem mhX3_pass : (yX3_pass.cls ≠ "java/lang/invoke/MethodHandle" ∧ yX3_pass.cls ≠ "java/lang/invoke/VarHandle" ∧ (parseMethodDescriptor yX3_pass.desc).map (fun d => d.parameters.length) = some 2) := by decide +kernel
theorem mhX3_bringSide : (yX3_bringSide.cls ≠ "java/lang/invoke/MethodHandle" ∧ yX3_bringSide.cls ≠ "java/lang/invoke/VarHandle" ∧ (parseMethodDescriptor yX3_bringSide.desc).map (fun d => d.parameters.length) = some 1) := by decide +kernel
theorem mhX3_passJump : (yX3_passJump.cls ≠ "java/lang/invoke/MethodHandle" ∧ yX3_passJump.cls ≠ "java/lang/invoke/VarHandle" ∧ (parseMethodDescriptor yX3_passJump.desc).map (fun d => d.parameters.length) = some 2) := by decide +kernel
theorem mhX4_init : (yX4_init.cls ≠ "java/lang/invoke/MethodHandle" ∧ yX4_init.cls ≠ "java/lang/invoke/VarHandle" ∧ (parseMethodDescriptor yX4_init.desc).map (fun d => d.parameters.length) = some 1) := by decide +kernel
theorem mhX4_begin : (yX4_begin.cls ≠ "java/lang/invoke/MethodHandle" ∧ yX4_begin.cls ≠ "java/lang/invoke/VarHandle" ∧ (parseMethodDescriptor yX4_begin.desc).map (fun d => d.parameters.length) = some 2) := by decide +kernel
theorem mhX4_get : (yX4_get.cls ≠ "java/lang/invoke/MethodHandle" ∧ yX4_get.cls ≠ "java/lang/invoke/VarHandle" ∧ (parseMethodDescriptor yX4_get.desc).map (fun d => d.parameters.length) = some 1) := by decide +kernel
theorem mhX4_set : (yX4_set.cls ≠ "java/lang/invoke/MethodHandle" ∧ yX4_set.cls ≠ "java/lang/invoke/VarHandle" ∧ (parseMethodDescriptor yX4_set.desc).map (fun d => d.parameters.length) = some 2) := by decide +kernel
theorem mhX4_stop : (yX4_stop.cls ≠ "java/lang/invoke/MethodHandle" ∧ yX4_stop.cls ≠ "java/lang/invoke/VarHandle" ∧ (parseMethodDescriptor yX4_stop.desc).map (fun d => d.parameters.length) = some 1) := by decide +kernel
theorem mhX4_stepOn : (yX4_stepOn.cls ≠ "java/lang/invoke/MethodHandle" ∧ yX4_stepOn.cls ≠ "java/lang/invoke/VarHandle" ∧ (parseMethodDescriptor yX4_stepOn.desc).map (fun d => d.parameters.length) = some 1) := by decide +kernel
theorem mhX4_readPacket : (yX4_readPacket.cls ≠ "java/lang/invoke/MethodHandle" ∧ yX4_readPacket.cls ≠ "java/lang/invoke/VarHandle" ∧ (parseMethodDescriptor yX4_readPacket.desc).map (fun d => d.parameters.length) = some 2) := by decide +kernel
theorem mhX4_inStack : (yX4_inStack.cls ≠ "java/lang/invoke/MethodHandle" ∧ yX4_inStack.cls ≠ "java/lang/invoke/VarHandle" ∧ (parseMethodDescriptor yX4_inStack.desc).map (fun d => d.parameters.length) = some 2) := by decide +kernel
theorem mhX4_inPacket : (yX4_inPacket.cls ≠ "java/lang/invoke/MethodHandle" ∧ yX4_inPacket.cls ≠ "java/lang/invoke/VarHandle" ∧ (parseMethodDescriptor yX4_inPacket.desc).map (fun d => d.parameters.length) = some 2) := by decide +kernel
theorem mhX4_byteAt : (yX4_byteAt.cls ≠ "java/lang/invoke/MethodHandle" ∧ yX4_byteAt.cls ≠ "java/lang/invoke/VarHandle" ∧ (parseMethodDescriptor yX4_byteAt.desc).map (fun d => d.parameters.length) = some 1) := by decide +kernel
theorem mhX4_load8 : (yX4_load8.cls ≠ "java/lang/invoke/MethodHandle" ∧ yX4_load8.cls ≠ "java/lang/invoke/VarHandle" ∧ (parseMethodDescriptor yX4_load8.desc).map (fun d => d.parameters.length) = some 2) := by decide +kernel
theorem mhX4_store : (yX4_store.cls ≠ "java/lang/invoke/MethodHandle" ∧ yX4_store.cls ≠ "java/lang/invoke/VarHandle" ∧ (parseMethodDescriptor yX4_store.desc).map (fun d => d.parameters.length) = some 3) := by decide +kernel
theorem mhX5_init : (yX5_init.cls ≠ "java/lang/invoke/MethodHandle" ∧ yX5_init.cls ≠ "java/lang/invoke/VarHandle" ∧ (parseMethodDescriptor yX5_init.desc).map (fun d => d.parameters.length) = some 0) := by decide +kernel
theorem mhX5_takeTape : (yX5_takeTape.cls ≠ "java/lang/invoke/MethodHandle" ∧ yX5_takeTape.cls ≠ "java/lang/invoke/VarHandle" ∧ (parseMethodDescriptor yX5_takeTape.desc).map (fun d => d.parameters.length) = some 1) := by decide +kernel
theorem mhX5_at : (yX5_at.cls ≠ "java/lang/invoke/MethodHandle" ∧ yX5_at.cls ≠ "java/lang/invoke/VarHandle" ∧ (parseMethodDescriptor yX5_at.desc).map (fun d => d.parameters.length) = some 1) := by decide +kernel
theorem mhX5_perform : (yX5_perform.cls ≠ "java/lang/invoke/MethodHandle" ∧ yX5_perform.cls ≠ "java/lang/invoke/VarHandle" ∧ (parseMethodDescriptor yX5_perform.desc).map (fun d => d.parameters.length) = some 3) := by decide +kernel
theorem mhX5_highPart : (yX5_highPart.cls ≠ "java/lang/invoke/MethodHandle" ∧ yX5_highPart.cls ≠ "java/lang/invoke/VarHandle" ∧ (parseMethodDescriptor yX5_highPart.desc).map (fun d => d.parameters.length) = some 1) := by decide +kernel
theorem mhX5_middlePart : (yX5_middlePart.cls ≠ "java/lang/invoke/MethodHandle" ∧ yX5_middlePart.cls ≠ "java/lang/invoke/VarHandle" ∧ (parseMethodDescriptor yX5_middlePart.desc).map (fun d => d.parameters.length) = some 1) := by decide +kernel
theorem mhX5_exists : (yX5_exists.cls ≠ "java/lang/invoke/MethodHandle" ∧ yX5_exists.cls ≠ "java/lang/invoke/VarHandle" ∧ (parseMethodDescriptor yX5_exists.desc).map (fun d => d.parameters.length) = some 1) := by decide +kernel
theorem mhX5_step : (yX5_step.cls ≠ "java/lang/invoke/MethodHandle" ∧ yX5_step.cls ≠ "java/lang/invoke/VarHandle" ∧ (parseMethodDescriptor yX5_step.desc).map (fun d => d.parameters.length) = some 1) := by decide +kernel
theorem mhX5_shiftHigh : (yX5_shiftHigh.cls ≠ "java/lang/invoke/MethodHandle" ∧ yX5_shiftHigh.cls ≠ "java/lang/invoke/VarHandle" ∧ (parseMethodDescriptor yX5_shiftHigh.desc).map (fun d => d.parameters.length) = some 1) := by decide +kernel
theorem mhX5_farNumber : (yX5_farNumber.cls ≠ "java/lang/invoke/MethodHandle" ∧ yX5_farNumber.cls ≠ "java/lang/invoke/VarHandle" ∧ (parseMethodDescriptor yX5_farNumber.desc).map (fun d => d.parameters.length) = some 1) := by decide +kernel
theorem mhX5_branchNumber : (yX5_branchNumber.cls ≠ "java/lang/invoke/MethodHandle" ∧ yX5_branchNumber.cls ≠ "java/lang/invoke/VarHandle" ∧ (parseMethodDescriptor yX5_branchNumber.desc).map (fun d => d.parameters.length) = some 1) := by decide +kernel
theorem mhX5_storeNumber : (yX5_storeNumber.cls ≠ "java/lang/invoke/MethodHandle" ∧ yX5_storeNumber.cls ≠ "java/lang/invoke/VarHandle" ∧ (parseMethodDescriptor yX5_storeNumber.desc).map (fun d => d.parameters.length) = some 1) := by decide +kernel
theorem mhX5_keep : (yX5_keep.cls ≠ "java/lang/invoke/MethodHandle" ∧ yX5_keep.cls ≠ "java/lang/invoke/VarHandle" ∧ (parseMethodDescriptor yX5_keep.desc).map (fun d => d.parameters.length) = some 3) := by decide +kernel
theorem mhX5_go : (yX5_go.cls ≠ "java/lang/invoke/MethodHandle" ∧ yX5_go.cls ≠ "java/lang/invoke/VarHandle" ∧ (parseMethodDescriptor yX5_go.desc).map (fun d => d.parameters.length) = some 2) := by decide +kernel
theorem mhX5_goLinked : (yX5_goLinked.cls ≠ "java/lang/invoke/MethodHandle" ∧ yX5_goLinked.cls ≠ "java/lang/invoke/VarHandle" ∧ (parseMethodDescriptor yX5_goLinked.desc).map (fun d => d.parameters.length) = some 3) := by decide +kernel
theorem mhX5_branches : (yX5_branches.cls ≠ "java/lang/invoke/MethodHandle" ∧ yX5_branches.cls ≠ "java/lang/invoke/VarHandle" ∧ (parseMethodDescriptor yX5_branches.desc).map (fun d => d.parameters.length) = some 3) := by decide +kernel
theorem mhX5_fetch : (yX5_fetch.cls ≠ "java/lang/invoke/MethodHandle" ∧ yX5_fetch.cls ≠ "java/lang/invoke/VarHandle" ∧ (parseMethodDescriptor yX5_fetch.desc).map (fun d => d.parameters.length) = some 4) := by decide +kernel
theorem mhX5_keepInMemory : (yX5_keepInMemory.cls ≠ "java/lang/invoke/MethodHandle" ∧ yX5_keepInMemory.cls ≠ "java/lang/invoke/VarHandle" ∧ (parseMethodDescriptor yX5_keepInMemory.desc).map (fun d => d.parameters.length) = some 4) := by decide +kernel
theorem mhX5_made : (yX5_made.cls ≠ "java/lang/invoke/MethodHandle" ∧ yX5_made.cls ≠ "java/lang/invoke/VarHandle" ∧ (parseMethodDescriptor yX5_made.desc).map (fun d => d.parameters.length) = some 4) := by decide +kernel
theorem mhX5_divided : (yX5_divided.cls ≠ "java/lang/invoke/MethodHandle" ∧ yX5_divided.cls ≠ "java/lang/invoke/VarHandle" ∧ (parseMethodDescriptor yX5_divided.desc).map (fun d => d.parameters.length) = some 2) := by decide +kernel
theorem mhX5_made32 : (yX5_made32.cls ≠ "java/lang/invoke/MethodHandle" ∧ yX5_made32.cls ≠ "java/lang/invoke/VarHandle" ∧ (parseMethodDescriptor yX5_made32.desc).map (fun d => d.parameters.length) = some 4) := by decide +kernel
theorem mhX6_init : (yX6_init.cls ≠ "java/lang/invoke/MethodHandle" ∧ yX6_init.cls ≠ "java/lang/invoke/VarHandle" ∧ (parseMethodDescriptor yX6_init.desc).map (fun d => d.parameters.length) = some 0) := by decide +kernel
theorem mhX6_add : (yX6_add.cls ≠ "java/lang/invoke/MethodHandle" ∧ yX6_add.cls ≠ "java/lang/invoke/VarHandle" ∧ (parseMethodDescriptor yX6_add.desc).map (fun d => d.parameters.length) = some 1) := by decide +kernel
theorem mhX6_lengthOf : (yX6_lengthOf.cls ≠ "java/lang/invoke/MethodHandle" ∧ yX6_lengthOf.cls ≠ "java/lang/invoke/VarHandle" ∧ (parseMethodDescriptor yX6_lengthOf.desc).map (fun d => d.parameters.length) = some 1) := by decide +kernel
theorem mhX6_at : (yX6_at.cls ≠ "java/lang/invoke/MethodHandle" ∧ yX6_at.cls ≠ "java/lang/invoke/VarHandle" ∧ (parseMethodDescriptor yX6_at.desc).map (fun d => d.parameters.length) = some 2) := by decide +kernel
theorem mhX6_eightFrom : (yX6_eightFrom.cls ≠ "java/lang/invoke/MethodHandle" ∧ yX6_eightFrom.cls ≠ "java/lang/invoke/VarHandle" ∧ (parseMethodDescriptor yX6_eightFrom.desc).map (fun d => d.parameters.length) = some 2) := by decide +kernel
theorem mhX6_read : (yX6_read.cls ≠ "java/lang/invoke/MethodHandle" ∧ yX6_read.cls ≠ "java/lang/invoke/VarHandle" ∧ (parseMethodDescriptor yX6_read.desc).map (fun d => d.parameters.length) = some 3) := by decide +kernel
theorem mhX7_init : (yX7_init.cls ≠ "java/lang/invoke/MethodHandle" ∧ yX7_init.cls ≠ "java/lang/invoke/VarHandle" ∧ (parseMethodDescriptor yX7_init.desc).map (fun d => d.parameters.length) = some 0) := by decide +kernel
theorem mhX7_takeTape : (yX7_takeTape.cls ≠ "java/lang/invoke/MethodHandle" ∧ yX7_takeTape.cls ≠ "java/lang/invoke/VarHandle" ∧ (parseMethodDescriptor yX7_takeTape.desc).map (fun d => d.parameters.length) = some 1) := by decide +kernel
theorem mhX7_at : (yX7_at.cls ≠ "java/lang/invoke/MethodHandle" ∧ yX7_at.cls ≠ "java/lang/invoke/VarHandle" ∧ (parseMethodDescriptor yX7_at.desc).map (fun d => d.parameters.length) = some 1) := by decide +kernel
theorem mhX7_codeOf : (yX7_codeOf.cls ≠ "java/lang/invoke/MethodHandle" ∧ yX7_codeOf.cls ≠ "java/lang/invoke/VarHandle" ∧ (parseMethodDescriptor yX7_codeOf.desc).map (fun d => d.parameters.length) = some 1) := by decide +kernel
theorem mhX7_dOf : (yX7_dOf.cls ≠ "java/lang/invoke/MethodHandle" ∧ yX7_dOf.cls ≠ "java/lang/invoke/VarHandle" ∧ (parseMethodDescriptor yX7_dOf.desc).map (fun d => d.parameters.length) = some 1) := by decide +kernel
theorem mhX7_sOf : (yX7_sOf.cls ≠ "java/lang/invoke/MethodHandle" ∧ yX7_sOf.cls ≠ "java/lang/invoke/VarHandle" ∧ (parseMethodDescriptor yX7_sOf.desc).map (fun d => d.parameters.length) = some 1) := by decide +kernel
theorem mhX7_offOf : (yX7_offOf.cls ≠ "java/lang/invoke/MethodHandle" ∧ yX7_offOf.cls ≠ "java/lang/invoke/VarHandle" ∧ (parseMethodDescriptor yX7_offOf.desc).map (fun d => d.parameters.length) = some 1) := by decide +kernel
theorem mhX7_kOf : (yX7_kOf.cls ≠ "java/lang/invoke/MethodHandle" ∧ yX7_kOf.cls ≠ "java/lang/invoke/VarHandle" ∧ (parseMethodDescriptor yX7_kOf.desc).map (fun d => d.parameters.length) = some 1) := by decide +kernel
theorem mhX7_isWide : (yX7_isWide.cls ≠ "java/lang/invoke/MethodHandle" ∧ yX7_isWide.cls ≠ "java/lang/invoke/VarHandle" ∧ (parseMethodDescriptor yX7_isWide.desc).map (fun d => d.parameters.length) = some 1) := by decide +kernel
theorem mhX7_isOp : (yX7_isOp.cls ≠ "java/lang/invoke/MethodHandle" ∧ yX7_isOp.cls ≠ "java/lang/invoke/VarHandle" ∧ (parseMethodDescriptor yX7_isOp.desc).map (fun d => d.parameters.length) = some 1) := by decide +kernel
theorem mhX7_isJump : (yX7_isJump.cls ≠ "java/lang/invoke/MethodHandle" ∧ yX7_isJump.cls ≠ "java/lang/invoke/VarHandle" ∧ (parseMethodDescriptor yX7_isJump.desc).map (fun d => d.parameters.length) = some 1) := by decide +kernel
theorem mhX7_hasS : (yX7_hasS.cls ≠ "java/lang/invoke/MethodHandle" ∧ yX7_hasS.cls ≠ "java/lang/invoke/VarHandle" ∧ (parseMethodDescriptor yX7_hasS.desc).map (fun d => d.parameters.length) = some 1) := by decide +kernel
theorem mhX7_isLoad : (yX7_isLoad.cls ≠ "java/lang/invoke/MethodHandle" ∧ yX7_isLoad.cls ≠ "java/lang/invoke/VarHandle" ∧ (parseMethodDescriptor yX7_isLoad.desc).map (fun d => d.parameters.length) = some 1) := by decide +kernel
theorem mhX7_isStore : (yX7_isStore.cls ≠ "java/lang/invoke/MethodHandle" ∧ yX7_isStore.cls ≠ "java/lang/invoke/VarHandle" ∧ (parseMethodDescriptor yX7_isStore.desc).map (fun d => d.parameters.length) = some 1) := by decide +kernel
theorem mhX7_isRead : (yX7_isRead.cls ≠ "java/lang/invoke/MethodHandle" ∧ yX7_isRead.cls ≠ "java/lang/invoke/VarHandle" ∧ (parseMethodDescriptor yX7_isRead.desc).map (fun d => d.parameters.length) = some 1) := by decide +kernel
theorem mhX7_sizeOf : (yX7_sizeOf.cls ≠ "java/lang/invoke/MethodHandle" ∧ yX7_sizeOf.cls ≠ "java/lang/invoke/VarHandle" ∧ (parseMethodDescriptor yX7_sizeOf.desc).map (fun d => d.parameters.length) = some 1) := by decide +kernel
theorem mhX7_partsOf : (yX7_partsOf.cls ≠ "java/lang/invoke/MethodHandle" ∧ yX7_partsOf.cls ≠ "java/lang/invoke/VarHandle" ∧ (parseMethodDescriptor yX7_partsOf.desc).map (fun d => d.parameters.length) = some 1) := by decide +kernel
theorem mhX7_partsOfOp : (yX7_partsOfOp.cls ≠ "java/lang/invoke/MethodHandle" ∧ yX7_partsOfOp.cls ≠ "java/lang/invoke/VarHandle" ∧ (parseMethodDescriptor yX7_partsOfOp.desc).map (fun d => d.parameters.length) = some 1) := by decide +kernel
theorem mhX7_partsOfJump : (yX7_partsOfJump.cls ≠ "java/lang/invoke/MethodHandle" ∧ yX7_partsOfJump.cls ≠ "java/lang/invoke/VarHandle" ∧ (parseMethodDescriptor yX7_partsOfJump.desc).map (fun d => d.parameters.length) = some 1) := by decide +kernel
theorem mhX7_exists : (yX7_exists.cls ≠ "java/lang/invoke/MethodHandle" ∧ yX7_exists.cls ≠ "java/lang/invoke/VarHandle" ∧ (parseMethodDescriptor yX7_exists.desc).map (fun d => d.parameters.length) = some 1) := by decide +kernel
theorem mhX7_perform : (yX7_perform.cls ≠ "java/lang/invoke/MethodHandle" ∧ yX7_perform.cls ≠ "java/lang/invoke/VarHandle" ∧ (parseMethodDescriptor yX7_perform.desc).map (fun d => d.parameters.length) = some 3) := by decide +kernel
theorem mhX7_step : (yX7_step.cls ≠ "java/lang/invoke/MethodHandle" ∧ yX7_step.cls ≠ "java/lang/invoke/VarHandle" ∧ (parseMethodDescriptor yX7_step.desc).map (fun d => d.parameters.length) = some 1) := by decide +kernel
theorem mhX7_sideOf : (yX7_sideOf.cls ≠ "java/lang/invoke/MethodHandle" ∧ yX7_sideOf.cls ≠ "java/lang/invoke/VarHandle" ∧ (parseMethodDescriptor yX7_sideOf.desc).map (fun d => d.parameters.length) = some 2) := by decide +kernel
theorem mhX7_readPacket : (yX7_readPacket.cls ≠ "java/lang/invoke/MethodHandle" ∧ yX7_readPacket.cls ≠ "java/lang/invoke/VarHandle" ∧ (parseMethodDescriptor yX7_readPacket.desc).map (fun d => d.parameters.length) = some 2) := by decide +kernel
theorem mhX7_useMemory : (yX7_useMemory.cls ≠ "java/lang/invoke/MethodHandle" ∧ yX7_useMemory.cls ≠ "java/lang/invoke/VarHandle" ∧ (parseMethodDescriptor yX7_useMemory.desc).map (fun d => d.parameters.length) = some 2) := by decide +kernel
theorem mhX8_init : (yX8_init.cls ≠ "java/lang/invoke/MethodHandle" ∧ yX8_init.cls ≠ "java/lang/invoke/VarHandle" ∧ (parseMethodDescriptor yX8_init.desc).map (fun d => d.parameters.length) = some 2) := by decide +kernel
theorem mhX8_begin : (yX8_begin.cls ≠ "java/lang/invoke/MethodHandle" ∧ yX8_begin.cls ≠ "java/lang/invoke/VarHandle" ∧ (parseMethodDescriptor yX8_begin.desc).map (fun d => d.parameters.length) = some 1) := by decide +kernel
theorem mhX8_wrongPlace : (yX8_wrongPlace.cls ≠ "java/lang/invoke/MethodHandle" ∧ yX8_wrongPlace.cls ≠ "java/lang/invoke/VarHandle" ∧ (parseMethodDescriptor yX8_wrongPlace.desc).map (fun d => d.parameters.length) = some 0) := by decide +kernel
theorem mhX8_fail : (yX8_fail.cls ≠ "java/lang/invoke/MethodHandle" ∧ yX8_fail.cls ≠ "java/lang/invoke/VarHandle" ∧ (parseMethodDescriptor yX8_fail.desc).map (fun d => d.parameters.length) = some 0) := by decide +kernel
theorem mhX8_next : (yX8_next.cls ≠ "java/lang/invoke/MethodHandle" ∧ yX8_next.cls ≠ "java/lang/invoke/VarHandle" ∧ (parseMethodDescriptor yX8_next.desc).map (fun d => d.parameters.length) = some 0) := by decide +kernel
theorem mhX8_behindBlanks : (yX8_behindBlanks.cls ≠ "java/lang/invoke/MethodHandle" ∧ yX8_behindBlanks.cls ≠ "java/lang/invoke/VarHandle" ∧ (parseMethodDescriptor yX8_behindBlanks.desc).map (fun d => d.parameters.length) = some 1) := by decide +kernel
theorem mhX8_behindWord : (yX8_behindWord.cls ≠ "java/lang/invoke/MethodHandle" ∧ yX8_behindWord.cls ≠ "java/lang/invoke/VarHandle" ∧ (parseMethodDescriptor yX8_behindWord.desc).map (fun d => d.parameters.length) = some 1) := by decide +kernel
theorem mhX8_inWord : (yX8_inWord.cls ≠ "java/lang/invoke/MethodHandle" ∧ yX8_inWord.cls ≠ "java/lang/invoke/VarHandle" ∧ (parseMethodDescriptor yX8_inWord.desc).map (fun d => d.parameters.length) = some 1) := by decide +kernel
theorem mhX8_isDigit : (yX8_isDigit.cls ≠ "java/lang/invoke/MethodHandle" ∧ yX8_isDigit.cls ≠ "java/lang/invoke/VarHandle" ∧ (parseMethodDescriptor yX8_isDigit.desc).map (fun d => d.parameters.length) = some 1) := by decide +kernel
theorem mhX8_signKind : (yX8_signKind.cls ≠ "java/lang/invoke/MethodHandle" ∧ yX8_signKind.cls ≠ "java/lang/invoke/VarHandle" ∧ (parseMethodDescriptor yX8_signKind.desc).map (fun d => d.parameters.length) = some 2) := by decide +kernel
theorem mhX8_isWord : (yX8_isWord.cls ≠ "java/lang/invoke/MethodHandle" ∧ yX8_isWord.cls ≠ "java/lang/invoke/VarHandle" ∧ (parseMethodDescriptor yX8_isWord.desc).map (fun d => d.parameters.length) = some 1) := by decide +kernel
theorem mhX8_take : (yX8_take.cls ≠ "java/lang/invoke/MethodHandle" ∧ yX8_take.cls ≠ "java/lang/invoke/VarHandle" ∧ (parseMethodDescriptor yX8_take.desc).map (fun d => d.parameters.length) = some 1) := by decide +kernel
theorem mhX8_protocol : (yX8_protocol.cls ≠ "java/lang/invoke/MethodHandle" ∧ yX8_protocol.cls ≠ "java/lang/invoke/VarHandle" ∧ (parseMethodDescriptor yX8_protocol.desc).map (fun d => d.parameters.length) = some 0) := by decide +kernel
theorem mhX8_number : (yX8_number.cls ≠ "java/lang/invoke/MethodHandle" ∧ yX8_number.cls ≠ "java/lang/invoke/VarHandle" ∧ (parseMethodDescriptor yX8_number.desc).map (fun d => d.parameters.length) = some 0) := by decide +kernel
theorem mhX8_hexadecimal : (yX8_hexadecimal.cls ≠ "java/lang/invoke/MethodHandle" ∧ yX8_hexadecimal.cls ≠ "java/lang/invoke/VarHandle" ∧ (parseMethodDescriptor yX8_hexadecimal.desc).map (fun d => d.parameters.length) = some 0) := by decide +kernel
theorem mhX8_digits : (yX8_digits.cls ≠ "java/lang/invoke/MethodHandle" ∧ yX8_digits.cls ≠ "java/lang/invoke/VarHandle" ∧ (parseMethodDescriptor yX8_digits.desc).map (fun d => d.parameters.length) = some 3) := by decide +kernel
theorem mhX8_address : (yX8_address.cls ≠ "java/lang/invoke/MethodHandle" ∧ yX8_address.cls ≠ "java/lang/invoke/VarHandle" ∧ (parseMethodDescriptor yX8_address.desc).map (fun d => d.parameters.length) = some 0) := by decide +kernel
theorem mhX8_dotFrom : (yX8_dotFrom.cls ≠ "java/lang/invoke/MethodHandle" ∧ yX8_dotFrom.cls ≠ "java/lang/invoke/VarHandle" ∧ (parseMethodDescriptor yX8_dotFrom.desc).map (fun d => d.parameters.length) = some 1) := by decide +kernel
theorem mhX8_takeNumber : (yX8_takeNumber.cls ≠ "java/lang/invoke/MethodHandle" ∧ yX8_takeNumber.cls ≠ "java/lang/invoke/VarHandle" ∧ (parseMethodDescriptor yX8_takeNumber.desc).map (fun d => d.parameters.length) = some 2) := by decide +kernel
theorem mhX8_takeSize : (yX8_takeSize.cls ≠ "java/lang/invoke/MethodHandle" ∧ yX8_takeSize.cls ≠ "java/lang/invoke/VarHandle" ∧ (parseMethodDescriptor yX8_takeSize.desc).map (fun d => d.parameters.length) = some 0) := by decide +kernel
theorem mhX8_takeAddress : (yX8_takeAddress.cls ≠ "java/lang/invoke/MethodHandle" ∧ yX8_takeAddress.cls ≠ "java/lang/invoke/VarHandle" ∧ (parseMethodDescriptor yX8_takeAddress.desc).map (fun d => d.parameters.length) = some 0) := by decide +kernel
theorem mhX8_readFilter : (yX8_readFilter.cls ≠ "java/lang/invoke/MethodHandle" ∧ yX8_readFilter.cls ≠ "java/lang/invoke/VarHandle" ∧ (parseMethodDescriptor yX8_readFilter.desc).map (fun d => d.parameters.length) = some 3) := by decide +kernel
theorem mhX8_readRow : (yX8_readRow.cls ≠ "java/lang/invoke/MethodHandle" ∧ yX8_readRow.cls ≠ "java/lang/invoke/VarHandle" ∧ (parseMethodDescriptor yX8_readRow.desc).map (fun d => d.parameters.length) = some 3) := by decide +kernel
theorem mhX8_readOne : (yX8_readOne.cls ≠ "java/lang/invoke/MethodHandle" ∧ yX8_readOne.cls ≠ "java/lang/invoke/VarHandle" ∧ (parseMethodDescriptor yX8_readOne.desc).map (fun d => d.parameters.length) = some 3) := by decide +kernel
theorem mhX8_beginsRelation : (yX8_beginsRelation.cls ≠ "java/lang/invoke/MethodHandle" ∧ yX8_beginsRelation.cls ≠ "java/lang/invoke/VarHandle" ∧ (parseMethodDescriptor yX8_beginsRelation.desc).map (fun d => d.parameters.length) = some 0) := by decide +kernel
theorem mhX8_readProtocol : (yX8_readProtocol.cls ≠ "java/lang/invoke/MethodHandle" ∧ yX8_readProtocol.cls ≠ "java/lang/invoke/VarHandle" ∧ (parseMethodDescriptor yX8_readProtocol.desc).map (fun d => d.parameters.length) = some 3) := by decide +kernel
theorem mhX8_readSided : (yX8_readSided.cls ≠ "java/lang/invoke/MethodHandle" ∧ yX8_readSided.cls ≠ "java/lang/invoke/VarHandle" ∧ (parseMethodDescriptor yX8_readSided.desc).map (fun d => d.parameters.length) = some 2) := by decide +kernel
theorem mhX8_readNet : (yX8_readNet.cls ≠ "java/lang/invoke/MethodHandle" ∧ yX8_readNet.cls ≠ "java/lang/invoke/VarHandle" ∧ (parseMethodDescriptor yX8_readNet.desc).map (fun d => d.parameters.length) = some 3) := by decide +kernel
theorem mhX8_readLength : (yX8_readLength.cls ≠ "java/lang/invoke/MethodHandle" ∧ yX8_readLength.cls ≠ "java/lang/invoke/VarHandle" ∧ (parseMethodDescriptor yX8_readLength.desc).map (fun d => d.parameters.length) = some 2) := by decide +kernel
theorem mhX8_readRelation : (yX8_readRelation.cls ≠ "java/lang/invoke/MethodHandle" ∧ yX8_readRelation.cls ≠ "java/lang/invoke/VarHandle" ∧ (parseMethodDescriptor yX8_readRelation.desc).map (fun d => d.parameters.length) = some 2) := by decide +kernel
theorem mhX8_comparison : (yX8_comparison.cls ≠ "java/lang/invoke/MethodHandle" ∧ yX8_comparison.cls ≠ "java/lang/invoke/VarHandle" ∧ (parseMethodDescriptor yX8_comparison.desc).map (fun d => d.parameters.length) = some 0) := by decide +kernel
theorem mhX8_addingOp : (yX8_addingOp.cls ≠ "java/lang/invoke/MethodHandle" ∧ yX8_addingOp.cls ≠ "java/lang/invoke/VarHandle" ∧ (parseMethodDescriptor yX8_addingOp.desc).map (fun d => d.parameters.length) = some 0) := by decide +kernel
theorem mhX8_timesOp : (yX8_timesOp.cls ≠ "java/lang/invoke/MethodHandle" ∧ yX8_timesOp.cls ≠ "java/lang/invoke/VarHandle" ∧ (parseMethodDescriptor yX8_timesOp.desc).map (fun d => d.parameters.length) = some 0) := by decide +kernel
theorem mhX8_readSum : (yX8_readSum.cls ≠ "java/lang/invoke/MethodHandle" ∧ yX8_readSum.cls ≠ "java/lang/invoke/VarHandle" ∧ (parseMethodDescriptor yX8_readSum.desc).map (fun d => d.parameters.length) = some 2) := by decide +kernel
theorem mhX8_readProduct : (yX8_readProduct.cls ≠ "java/lang/invoke/MethodHandle" ∧ yX8_readProduct.cls ≠ "java/lang/invoke/VarHandle" ∧ (parseMethodDescriptor yX8_readProduct.desc).map (fun d => d.parameters.length) = some 2) := by decide +kernel
theorem mhX8_readAtom : (yX8_readAtom.cls ≠ "java/lang/invoke/MethodHandle" ∧ yX8_readAtom.cls ≠ "java/lang/invoke/VarHandle" ∧ (parseMethodDescriptor yX8_readAtom.desc).map (fun d => d.parameters.length) = some 2) := by decide +kernel
theorem mhX8_readBareAtom : (yX8_readBareAtom.cls ≠ "java/lang/invoke/MethodHandle" ∧ yX8_readBareAtom.cls ≠ "java/lang/invoke/VarHandle" ∧ (parseMethodDescriptor yX8_readBareAtom.desc).map (fun d => d.parameters.length) = some 2) := by decide +kernel
theorem mhX8_readAccess : (yX8_readAccess.cls ≠ "java/lang/invoke/MethodHandle" ∧ yX8_readAccess.cls ≠ "java/lang/invoke/VarHandle" ∧ (parseMethodDescriptor yX8_readAccess.desc).map (fun d => d.parameters.length) = some 2) := by decide +kernel
theorem mhX9_init : (yX9_init.cls ≠ "java/lang/invoke/MethodHandle" ∧ yX9_init.cls ≠ "java/lang/invoke/VarHandle" ∧ (parseMethodDescriptor yX9_init.desc).map (fun d => d.parameters.length) = some 0) := by decide +kernel
theorem mhX9_hasRoom : (yX9_hasRoom.cls ≠ "java/lang/invoke/MethodHandle" ∧ yX9_hasRoom.cls ≠ "java/lang/invoke/VarHandle" ∧ (parseMethodDescriptor yX9_hasRoom.desc).map (fun d => d.parameters.length) = some 1) := by decide +kernel
theorem mhX9_put : (yX9_put.cls ≠ "java/lang/invoke/MethodHandle" ∧ yX9_put.cls ≠ "java/lang/invoke/VarHandle" ∧ (parseMethodDescriptor yX9_put.desc).map (fun d => d.parameters.length) = some 1) := by decide +kernel
theorem mhX9_at : (yX9_at.cls ≠ "java/lang/invoke/MethodHandle" ∧ yX9_at.cls ≠ "java/lang/invoke/VarHandle" ∧ (parseMethodDescriptor yX9_at.desc).map (fun d => d.parameters.length) = some 1) := by decide +kernel
theorem mhX9_lowestFirst : (yX9_lowestFirst.cls ≠ "java/lang/invoke/MethodHandle" ∧ yX9_lowestFirst.cls ≠ "java/lang/invoke/VarHandle" ∧ (parseMethodDescriptor yX9_lowestFirst.desc).map (fun d => d.parameters.length) = some 2) := by decide +kernel
theorem mhX10_init : (yX10_init.cls ≠ "java/lang/invoke/MethodHandle" ∧ yX10_init.cls ≠ "java/lang/invoke/VarHandle" ∧ (parseMethodDescriptor yX10_init.desc).map (fun d => d.parameters.length) = some 2) := by decide +kernel
theorem mhX10_turn : (yX10_turn.cls ≠ "java/lang/invoke/MethodHandle" ∧ yX10_turn.cls ≠ "java/lang/invoke/VarHandle" ∧ (parseMethodDescriptor yX10_turn.desc).map (fun d => d.parameters.length) = some 1) := by decide +kernel
theorem mhX10_turnAll : (yX10_turnAll.cls ≠ "java/lang/invoke/MethodHandle" ∧ yX10_turnAll.cls ≠ "java/lang/invoke/VarHandle" ∧ (parseMethodDescriptor yX10_turnAll.desc).map (fun d => d.parameters.length) = some 0) := by decide +kernel
theorem mhX10_turnOne : (yX10_turnOne.cls ≠ "java/lang/invoke/MethodHandle" ∧ yX10_turnOne.cls ≠ "java/lang/invoke/VarHandle" ∧ (parseMethodDescriptor yX10_turnOne.desc).map (fun d => d.parameters.length) = some 1) := by decide +kernel
theorem mhX10_put : (yX10_put.cls ≠ "java/lang/invoke/MethodHandle" ∧ yX10_put.cls ≠ "java/lang/invoke/VarHandle" ∧ (parseMethodDescriptor yX10_put.desc).map (fun d => d.parameters.length) = some 1) := by decide +kernel
theorem mhX10_placeOf : (yX10_placeOf.cls ≠ "java/lang/invoke/MethodHandle" ∧ yX10_placeOf.cls ≠ "java/lang/invoke/VarHandle" ∧ (parseMethodDescriptor yX10_placeOf.desc).map (fun d => d.parameters.length) = some 1) := by decide +kernel
theorem mhX10_putOp : (yX10_putOp.cls ≠ "java/lang/invoke/MethodHandle" ∧ yX10_putOp.cls ≠ "java/lang/invoke/VarHandle" ∧ (parseMethodDescriptor yX10_putOp.desc).map (fun d => d.parameters.length) = some 6) := by decide +kernel
theorem mhX10_putImm : (yX10_putImm.cls ≠ "java/lang/invoke/MethodHandle" ∧ yX10_putImm.cls ≠ "java/lang/invoke/VarHandle" ∧ (parseMethodDescriptor yX10_putImm.desc).map (fun d => d.parameters.length) = some 5) := by decide +kernel
theorem mhX10_putAdd : (yX10_putAdd.cls ≠ "java/lang/invoke/MethodHandle" ∧ yX10_putAdd.cls ≠ "java/lang/invoke/VarHandle" ∧ (parseMethodDescriptor yX10_putAdd.desc).map (fun d => d.parameters.length) = some 3) := by decide +kernel
theorem mhX10_putBranch : (yX10_putBranch.cls ≠ "java/lang/invoke/MethodHandle" ∧ yX10_putBranch.cls ≠ "java/lang/invoke/VarHandle" ∧ (parseMethodDescriptor yX10_putBranch.desc).map (fun d => d.parameters.length) = some 4) := by decide +kernel
theorem mhX10_putStore : (yX10_putStore.cls ≠ "java/lang/invoke/MethodHandle" ∧ yX10_putStore.cls ≠ "java/lang/invoke/VarHandle" ∧ (parseMethodDescriptor yX10_putStore.desc).map (fun d => d.parameters.length) = some 3) := by decide +kernel
theorem mhX10_putGoing : (yX10_putGoing.cls ≠ "java/lang/invoke/MethodHandle" ∧ yX10_putGoing.cls ≠ "java/lang/invoke/VarHandle" ∧ (parseMethodDescriptor yX10_putGoing.desc).map (fun d => d.parameters.length) = some 1) := by decide +kernel
theorem mhX10_putNumber : (yX10_putNumber.cls ≠ "java/lang/invoke/MethodHandle" ∧ yX10_putNumber.cls ≠ "java/lang/invoke/VarHandle" ∧ (parseMethodDescriptor yX10_putNumber.desc).map (fun d => d.parameters.length) = some 2) := by decide +kernel
theorem mhX10_putCut : (yX10_putCut.cls ≠ "java/lang/invoke/MethodHandle" ∧ yX10_putCut.cls ≠ "java/lang/invoke/VarHandle" ∧ (parseMethodDescriptor yX10_putCut.desc).map (fun d => d.parameters.length) = some 1) := by decide +kernel
theorem mhX10_putSide : (yX10_putSide.cls ≠ "java/lang/invoke/MethodHandle" ∧ yX10_putSide.cls ≠ "java/lang/invoke/VarHandle" ∧ (parseMethodDescriptor yX10_putSide.desc).map (fun d => d.parameters.length) = some 1) := by decide +kernel
theorem mhX10_turnOp : (yX10_turnOp.cls ≠ "java/lang/invoke/MethodHandle" ∧ yX10_turnOp.cls ≠ "java/lang/invoke/VarHandle" ∧ (parseMethodDescriptor yX10_turnOp.desc).map (fun d => d.parameters.length) = some 1) := by decide +kernel
theorem mhX10_turnDivision : (yX10_turnDivision.cls ≠ "java/lang/invoke/MethodHandle" ∧ yX10_turnDivision.cls ≠ "java/lang/invoke/VarHandle" ∧ (parseMethodDescriptor yX10_turnDivision.desc).map (fun d => d.parameters.length) = some 3) := by decide +kernel
theorem mhX10_turnJump : (yX10_turnJump.cls ≠ "java/lang/invoke/MethodHandle" ∧ yX10_turnJump.cls ≠ "java/lang/invoke/VarHandle" ∧ (parseMethodDescriptor yX10_turnJump.desc).map (fun d => d.parameters.length) = some 2) := by decide +kernel
theorem mhX10_putPassing : (yX10_putPassing.cls ≠ "java/lang/invoke/MethodHandle" ∧ yX10_putPassing.cls ≠ "java/lang/invoke/VarHandle" ∧ (parseMethodDescriptor yX10_putPassing.desc).map (fun d => d.parameters.length) = some 3) := by decide +kernel
theorem mhX10_turnMemory : (yX10_turnMemory.cls ≠ "java/lang/invoke/MethodHandle" ∧ yX10_turnMemory.cls ≠ "java/lang/invoke/VarHandle" ∧ (parseMethodDescriptor yX10_turnMemory.desc).map (fun d => d.parameters.length) = some 1) := by decide +kernel
theorem mhX10_turnRead : (yX10_turnRead.cls ≠ "java/lang/invoke/MethodHandle" ∧ yX10_turnRead.cls ≠ "java/lang/invoke/VarHandle" ∧ (parseMethodDescriptor yX10_turnRead.desc).map (fun d => d.parameters.length) = some 1) := by decide +kernel
theorem mhX11_init : (yX11_init.cls ≠ "java/lang/invoke/MethodHandle" ∧ yX11_init.cls ≠ "java/lang/invoke/VarHandle" ∧ (parseMethodDescriptor yX11_init.desc).map (fun d => d.parameters.length) = some 0) := by decide +kernel
theorem mhX11_feed : (yX11_feed.cls ≠ "java/lang/invoke/MethodHandle" ∧ yX11_feed.cls ≠ "java/lang/invoke/VarHandle" ∧ (parseMethodDescriptor yX11_feed.desc).map (fun d => d.parameters.length) = some 5) := by decide +kernel
theorem mhX11_end : (yX11_end.cls ≠ "java/lang/invoke/MethodHandle" ∧ yX11_end.cls ≠ "java/lang/invoke/VarHandle" ∧ (parseMethodDescriptor yX11_end.desc).map (fun d => d.parameters.length) = some 1) := by decide +kernel
theorem mhX11_packet : (yX11_packet.cls ≠ "java/lang/invoke/MethodHandle" ∧ yX11_packet.cls ≠ "java/lang/invoke/VarHandle" ∧ (parseMethodDescriptor yX11_packet.desc).map (fun d => d.parameters.length) = some 0) := by decide +kernel
theorem mhX11_bytes : (yX11_bytes.cls ≠ "java/lang/invoke/MethodHandle" ∧ yX11_bytes.cls ≠ "java/lang/invoke/VarHandle" ∧ (parseMethodDescriptor yX11_bytes.desc).map (fun d => d.parameters.length) = some 2) := by decide +kernel
theorem mhX11_compile : (yX11_compile.cls ≠ "java/lang/invoke/MethodHandle" ∧ yX11_compile.cls ≠ "java/lang/invoke/VarHandle" ∧ (parseMethodDescriptor yX11_compile.desc).map (fun d => d.parameters.length) = some 0) := by decide +kernel
theorem mhX11_swapSpares : (yX11_swapSpares.cls ≠ "java/lang/invoke/MethodHandle" ∧ yX11_swapSpares.cls ≠ "java/lang/invoke/VarHandle" ∧ (parseMethodDescriptor yX11_swapSpares.desc).map (fun d => d.parameters.length) = some 0) := by decide +kernel
theorem mhX11_load : (yX11_load.cls ≠ "java/lang/invoke/MethodHandle" ∧ yX11_load.cls ≠ "java/lang/invoke/VarHandle" ∧ (parseMethodDescriptor yX11_load.desc).map (fun d => d.parameters.length) = some 0) := by decide +kernel
theorem mhX11_instruction : (yX11_instruction.cls ≠ "java/lang/invoke/MethodHandle" ∧ yX11_instruction.cls ≠ "java/lang/invoke/VarHandle" ∧ (parseMethodDescriptor yX11_instruction.desc).map (fun d => d.parameters.length) = some 1) := by decide +kernel
theorem mhX11_verify : (yX11_verify.cls ≠ "java/lang/invoke/MethodHandle" ∧ yX11_verify.cls ≠ "java/lang/invoke/VarHandle" ∧ (parseMethodDescriptor yX11_verify.desc).map (fun d => d.parameters.length) = some 0) := by decide +kernel
theorem mhX11_known : (yX11_known.cls ≠ "java/lang/invoke/MethodHandle" ∧ yX11_known.cls ≠ "java/lang/invoke/VarHandle" ∧ (parseMethodDescriptor yX11_known.desc).map (fun d => d.parameters.length) = some 3) := by decide +kernel
theorem mhX11_run : (yX11_run.cls ≠ "java/lang/invoke/MethodHandle" ∧ yX11_run.cls ≠ "java/lang/invoke/VarHandle" ∧ (parseMethodDescriptor yX11_run.desc).map (fun d => d.parameters.length) = some 1) := by decide +kernel
theorem mhX11_translate : (yX11_translate.cls ≠ "java/lang/invoke/MethodHandle" ∧ yX11_translate.cls ≠ "java/lang/invoke/VarHandle" ∧ (parseMethodDescriptor yX11_translate.desc).map (fun d => d.parameters.length) = some 0) := by decide +kernel
theorem mhX11_raw : (yX11_raw.cls ≠ "java/lang/invoke/MethodHandle" ∧ yX11_raw.cls ≠ "java/lang/invoke/VarHandle" ∧ (parseMethodDescriptor yX11_raw.desc).map (fun d => d.parameters.length) = some 0) := by decide +kernel
theorem mhX11_word : (yX11_word.cls ≠ "java/lang/invoke/MethodHandle" ∧ yX11_word.cls ≠ "java/lang/invoke/VarHandle" ∧ (parseMethodDescriptor yX11_word.desc).map (fun d => d.parameters.length) = some 1) := by decide +kernel
theorem mhX11_emulate : (yX11_emulate.cls ≠ "java/lang/invoke/MethodHandle" ∧ yX11_emulate.cls ≠ "java/lang/invoke/VarHandle" ∧ (parseMethodDescriptor yX11_emulate.desc).map (fun d => d.parameters.length) = some 1) := by decide +kernel
theorem mhX11_ended : (yX11_ended.cls ≠ "java/lang/invoke/MethodHandle" ∧ yX11_ended.cls ≠ "java/lang/invoke/VarHandle" ∧ (parseMethodDescriptor yX11_ended.desc).map (fun d => d.parameters.length) = some 1) := by decide +kernel
theorem mhX11_register : (yX11_register.cls ≠ "java/lang/invoke/MethodHandle" ∧ yX11_register.cls ≠ "java/lang/invoke/VarHandle" ∧ (parseMethodDescriptor yX11_register.desc).map (fun d => d.parameters.length) = some 1) := by decide +kernel
theorem mhX11_stack : (yX11_stack.cls ≠ "java/lang/invoke/MethodHandle" ∧ yX11_stack.cls ≠ "java/lang/invoke/VarHandle" ∧ (parseMethodDescriptor yX11_stack.desc).map (fun d => d.parameters.length) = some 1) := by decide +kernel
theorem mhX11_matches : (yX11_matches.cls ≠ "java/lang/invoke/MethodHandle" ∧ yX11_matches.cls ≠ "java/lang/invoke/VarHandle" ∧ (parseMethodDescriptor yX11_matches.desc).map (fun d => d.parameters.length) = some 0) := by decide +kernel
theorem mhX11_count : (yX11_count.cls ≠ "java/lang/invoke/MethodHandle" ∧ yX11_count.cls ≠ "java/lang/invoke/VarHandle" ∧ (parseMethodDescriptor yX11_count.desc).map (fun d => d.parameters.length) = some 1) := by decide +kernel
theorem mhX11_below : (yX11_below.cls ≠ "java/lang/invoke/MethodHandle" ∧ yX11_below.cls ≠ "java/lang/invoke/VarHandle" ∧ (parseMethodDescriptor yX11_below.desc).map (fun d => d.parameters.length) = some 2) := by decide +kernel
theorem mhX11_lesser : (yX11_lesser.cls ≠ "java/lang/invoke/MethodHandle" ∧ yX11_lesser.cls ≠ "java/lang/invoke/VarHandle" ∧ (parseMethodDescriptor yX11_lesser.desc).map (fun d => d.parameters.length) = some 2) := by decide +kernel
theorem mhX11_greater : (yX11_greater.cls ≠ "java/lang/invoke/MethodHandle" ∧ yX11_greater.cls ≠ "java/lang/invoke/VarHandle" ∧ (parseMethodDescriptor yX11_greater.desc).map (fun d => d.parameters.length) = some 2) := by decide +kernel
theorem mhX11_quotient : (yX11_quotient.cls ≠ "java/lang/invoke/MethodHandle" ∧ yX11_quotient.cls ≠ "java/lang/invoke/VarHandle" ∧ (parseMethodDescriptor yX11_quotient.desc).map (fun d => d.parameters.length) = some 2) := by decide +kernel
theorem mhX11_worked : (yX11_worked.cls ≠ "java/lang/invoke/MethodHandle" ∧ yX11_worked.cls ≠ "java/lang/invoke/VarHandle" ∧ (parseMethodDescriptor yX11_worked.desc).map (fun d => d.parameters.length) = some 4) := by decide +kernel
theorem mhX11_holds : (yX11_holds.cls ≠ "java/lang/invoke/MethodHandle" ∧ yX11_holds.cls ≠ "java/lang/invoke/VarHandle" ∧ (parseMethodDescriptor yX11_holds.desc).map (fun d => d.parameters.length) = some 4) := by decide +kernel
theorem mhX11_otherOp : (yX11_otherOp.cls ≠ "java/lang/invoke/MethodHandle" ∧ yX11_otherOp.cls ≠ "java/lang/invoke/VarHandle" ∧ (parseMethodDescriptor yX11_otherOp.desc).map (fun d => d.parameters.length) = some 1) := by decide +kernel
abbrev vwCl : List vw_C := [(RX0, TX0, 5), (RX1, TX1, 5), (RX2, TX2, 18), (RX3, TX3, 14), (RX4, TX4, 10), (RX5, TX5, 2), (RX6, TX6, 3), (RX7, TX7, 2), (RX8, TX8, 6), (RX9, TX9, 2), (RX10, TX10, 5), (RX11, TX11, 14), (RX12, TX12, 7), (RX13, TX13, 6), (RX14, TX14, 5), (RX15, TX15, 7), (RX16, TX16, 78)]
