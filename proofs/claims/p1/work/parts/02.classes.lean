/-! names of the classes, their fields (starting text: the printed names) -/
def RX0 : String := "FractionRun$Course"
def TX0 : u_T := fun k => match k with
  | 0 => ("FractionRun$Course", "numbers", "[J", true)
  | _ => ("FractionRun$Course", "usedBits", "[I", true)
def tyX0 : Nat → FieldType := fun k => match k with
  | 0 => .array .long
  | _ => .array .int
theorem nmX0 : ∀ a, a < 2 → ∀ b, b < 2 → a ≠ b → (TX0 a).2.1 ≠ (TX0 b).2.1 := by decide +kernel
theorem tyX0_ok : ∀ k, k < 2 → parseFieldDescriptor (TX0 k).2.2.1 = some (tyX0 k) := by decide +kernel
def RX1 : String := "FractionRun$Fractions"
def TX1 : u_T := fun k => match k with
  | 0 => ("FractionRun$Fractions", "kinds", "[I", true)
  | 1 => ("FractionRun$Fractions", "uppers", "[I", true)
  | 2 => ("FractionRun$Fractions", "lowers", "[I", true)
  | 3 => ("FractionRun$Fractions", "changes", "[I", true)
  | 4 => ("FractionRun$Fractions", "startPowers", "[I", true)
  | _ => ("FractionRun$Fractions", "size", "I", false)
def tyX1 : Nat → FieldType := fun k => match k with
  | 0 => .array .int
  | 1 => .array .int
  | 2 => .array .int
  | 3 => .array .int
  | 4 => .array .int
  | _ => .int
theorem nmX1 : ∀ a, a < 6 → ∀ b, b < 6 → a ≠ b → (TX1 a).2.1 ≠ (TX1 b).2.1 := by decide +kernel
theorem tyX1_ok : ∀ k, k < 6 → parseFieldDescriptor (TX1 k).2.2.1 = some (tyX1 k) := by decide +kernel
def RX2 : String := "FractionRun$Kept"
def TX2 : u_T := fun k => match k with
  | 0 => ("FractionRun$Kept", "states", "[LFractionRun$State;", true)
  | 1 => ("FractionRun$Kept", "texts", "[LFractionRun$Text;", true)
  | _ => ("FractionRun$Kept", "size", "I", false)
def tyX2 : Nat → FieldType := fun k => match k with
  | 0 => .array (.object "FractionRun$State")
  | 1 => .array (.object "FractionRun$Text")
  | _ => .int
theorem nmX2 : ∀ a, a < 3 → ∀ b, b < 3 → a ≠ b → (TX2 a).2.1 ≠ (TX2 b).2.1 := by decide +kernel
theorem tyX2_ok : ∀ k, k < 3 → parseFieldDescriptor (TX2 k).2.2.1 = some (tyX2 k) := by decide +kernel
def RX3 : String := "FractionRun$Past"
def TX3 : u_T := fun k => match k with
  | 0 => ("FractionRun$Past", "states", "[LFractionRun$State;", true)
  | 1 => ("FractionRun$Past", "next", "I", false)
  | _ => ("FractionRun$Past", "size", "I", false)
def tyX3 : Nat → FieldType := fun k => match k with
  | 0 => .array (.object "FractionRun$State")
  | 1 => .int
  | _ => .int
theorem nmX3 : ∀ a, a < 3 → ∀ b, b < 3 → a ≠ b → (TX3 a).2.1 ≠ (TX3 b).2.1 := by decide +kernel
theorem tyX3_ok : ∀ k, k < 3 → parseFieldDescriptor (TX3 k).2.2.1 = some (tyX3 k) := by decide +kernel
def RX4 : String := "FractionRun$Reader"
def TX4 : u_T := fun k => match k with
  | _ => ("FractionRun$Reader", "numbers", "[I", true)
def tyX4 : Nat → FieldType := fun k => match k with
  | _ => .array .int
theorem nmX4 : ∀ a, a < 1 → ∀ b, b < 1 → a ≠ b → (TX4 a).2.1 ≠ (TX4 b).2.1 := by decide +kernel
theorem tyX4_ok : ∀ k, k < 1 → parseFieldDescriptor (TX4 k).2.2.1 = some (tyX4 k) := by decide +kernel
def RX5 : String := "FractionRun$State"
def TX5 : u_T := fun k => match k with
  | 0 => ("FractionRun$State", "powers", "[I", true)
  | 1 => ("FractionRun$State", "row", "[I", true)
  | 2 => ("FractionRun$State", "rowSize", "I", false)
  | 3 => ("FractionRun$State", "usedBits", "I", false)
  | 4 => ("FractionRun$State", "step", "I", false)
  | 5 => ("FractionRun$State", "ended", "Z", false)
  | _ => ("FractionRun$State", "timesInStep", "I", false)
def tyX5 : Nat → FieldType := fun k => match k with
  | 0 => .array .int
  | 1 => .array .int
  | 2 => .int
  | 3 => .int
  | 4 => .int
  | 5 => .boolean
  | _ => .int
theorem nmX5 : ∀ a, a < 7 → ∀ b, b < 7 → a ≠ b → (TX5 a).2.1 ≠ (TX5 b).2.1 := by decide +kernel
theorem tyX5_ok : ∀ k, k < 7 → parseFieldDescriptor (TX5 k).2.2.1 = some (tyX5 k) := by decide +kernel
def RX6 : String := "FractionRun$Text"
def TX6 : u_T := fun k => match k with
  | 0 => ("FractionRun$Text", "letters", "[C", true)
  | _ => ("FractionRun$Text", "size", "I", false)
def tyX6 : Nat → FieldType := fun k => match k with
  | 0 => .array .char
  | _ => .int
theorem nmX6 : ∀ a, a < 2 → ∀ b, b < 2 → a ≠ b → (TX6 a).2.1 ≠ (TX6 b).2.1 := by decide +kernel
theorem tyX6_ok : ∀ k, k < 2 → parseFieldDescriptor (TX6 k).2.2.1 = some (tyX6 k) := by decide +kernel
def RX7 : String := "FractionRun"
def TX7 : u_T := fun k => match k with
  | 0 => ("FractionRun", "text", "LFractionRun$Text;", true)
  | 1 => ("FractionRun", "reader", "LFractionRun$Reader;", true)
  | 2 => ("FractionRun", "told", "LFractionRun$Fractions;", true)
  | 3 => ("FractionRun", "draft", "LFractionRun$Fractions;", true)
  | 4 => ("FractionRun", "now", "LFractionRun$State;", true)
  | 5 => ("FractionRun", "trial", "LFractionRun$State;", true)
  | 6 => ("FractionRun", "goal", "LFractionRun$State;", true)
  | 7 => ("FractionRun", "past", "LFractionRun$Past;", true)
  | 8 => ("FractionRun", "kept", "LFractionRun$Kept;", true)
  | 9 => ("FractionRun", "seenStep", "[I", true)
  | 10 => ("FractionRun", "seenFraction", "[I", true)
  | 11 => ("FractionRun", "seenCount", "I", false)
  | 12 => ("FractionRun", "uses", "[I", true)
  | 13 => ("FractionRun", "course", "LFractionRun$Course;", true)
  | _ => ("FractionRun", "bestOrder", "[I", true)
def tyX7 : Nat → FieldType := fun k => match k with
  | 0 => .object "FractionRun$Text"
  | 1 => .object "FractionRun$Reader"
  | 2 => .object "FractionRun$Fractions"
  | 3 => .object "FractionRun$Fractions"
  | 4 => .object "FractionRun$State"
  | 5 => .object "FractionRun$State"
  | 6 => .object "FractionRun$State"
  | 7 => .object "FractionRun$Past"
  | 8 => .object "FractionRun$Kept"
  | 9 => .array .int
  | 10 => .array .int
  | 11 => .int
  | 12 => .array .int
  | 13 => .object "FractionRun$Course"
  | _ => .array .int
theorem nmX7 : ∀ a, a < 15 → ∀ b, b < 15 → a ≠ b → (TX7 a).2.1 ≠ (TX7 b).2.1 := by decide +kernel
theorem tyX7_ok : ∀ k, k < 15 → parseFieldDescriptor (TX7 k).2.2.1 = some (tyX7 k) := by decide +kernel
def RX8 : String := "FractionRunModel"
def TX8 : u_T := fun k => match k with
  | 0 => ("FractionRunModel", "fractions", "I", false)
  | 1 => ("FractionRunModel", "kind", "[I", true)
  | 2 => ("FractionRunModel", "change", "[I", true)
  | 3 => ("FractionRunModel", "newFractions", "I", false)
  | 4 => ("FractionRunModel", "newKind", "[I", true)
  | 5 => ("FractionRunModel", "newChange", "[I", true)
  | 6 => ("FractionRunModel", "newPower", "[I", true)
  | 7 => ("FractionRunModel", "slot", "[I", true)
  | 8 => ("FractionRunModel", "done", "I", false)
  | 9 => ("FractionRunModel", "kept", "I", false)
  | 10 => ("FractionRunModel", "length", "I", false)
  | 11 => ("FractionRunModel", "text", "[B", true)
  | 12 => ("FractionRunModel", "next", "I", false)
  | 13 => ("FractionRunModel", "place", "I", false)
  | 14 => ("FractionRunModel", "isWrong", "Z", false)
  | 15 => ("FractionRunModel", "seens", "I", false)
  | 16 => ("FractionRunModel", "seenWhen", "[I", true)
  | 17 => ("FractionRunModel", "seenWho", "[I", true)
  | 18 => ("FractionRunModel", "twice", "I", false)
  | 19 => ("FractionRunModel", "path", "[I", true)
  | 20 => ("FractionRunModel", "sorted", "[I", true)
  | 21 => ("FractionRunModel", "best", "[I", true)
  | 22 => ("FractionRunModel", "whoBy", "[I", true)
  | _ => ("FractionRunModel", "worth", "[I", true)
def tyX8 : Nat → FieldType := fun k => match k with
  | 0 => .int
  | 1 => .array .int
  | 2 => .array .int
  | 3 => .int
  | 4 => .array .int
  | 5 => .array .int
  | 6 => .array .int
  | 7 => .array .int
  | 8 => .int
  | 9 => .int
  | 10 => .int
  | 11 => .array .byte
  | 12 => .int
  | 13 => .int
  | 14 => .boolean
  | 15 => .int
  | 16 => .array .int
  | 17 => .array .int
  | 18 => .int
  | 19 => .array .int
  | 20 => .array .int
  | 21 => .array .int
  | 22 => .array .int
  | _ => .array .int
theorem nmX8 : ∀ a, a < 24 → ∀ b, b < 24 → a ≠ b → (TX8 a).2.1 ≠ (TX8 b).2.1 := by decide +kernel
theorem tyX8_ok : ∀ k, k < 24 → parseFieldDescriptor (TX8 k).2.2.1 = some (tyX8 k) := by decide +kernel
