/-! names of classes, fields and methods: as the claim's printed NAMES has them (fields in the order of the slots), and the methods' table -/
def RX0 : String := "PurseTrace$Choices"
def TX0 : u_T := fun k => match k with
  | 0 => ("PurseTrace$Choices", "purses", "LPurseTrace$Purses;", true)
  | 1 => ("PurseTrace$Choices", "lines", "LPurseTrace$Lines;", true)
  | 2 => ("PurseTrace$Choices", "replay", "LPurseTrace$Replay;", true)
  | 3 => ("PurseTrace$Choices", "ways", "[I", true)
  | 4 => ("PurseTrace$Choices", "choosing", "I", false)
  | 5 => ("PurseTrace$Choices", "barred", "[J", true)
  | 6 => ("PurseTrace$Choices", "bars", "I", false)
  | 7 => ("PurseTrace$Choices", "open", "[I", true)
  | 8 => ("PurseTrace$Choices", "row", "[I", true)
  | 9 => ("PurseTrace$Choices", "start", "I", false)
  | 10 => ("PurseTrace$Choices", "bestWorth", "I", false)
  | _ => ("PurseTrace$Choices", "bestRow", "[I", true)
def tyX0 : Nat → FieldType := fun k => match k with
  | 0 => .object "PurseTrace$Purses"
  | 1 => .object "PurseTrace$Lines"
  | 2 => .object "PurseTrace$Replay"
  | 3 => .array .int
  | 4 => .int
  | 5 => .array .long
  | 6 => .int
  | 7 => .array .int
  | 8 => .array .int
  | 9 => .int
  | 10 => .int
  | _ => .array .int
abbrev wsX00 : List Cond := u_ws RX0 TX0 12
theorem nmX0 : ∀ a, a < 12 → ∀ b, b < 12 → a ≠ b → (TX0 a).2.1 ≠ (TX0 b).2.1 := by decide +kernel
theorem tyX0_ok : ∀ k, k < 12 → parseFieldDescriptor (TX0 k).2.2.1 = some (tyX0 k) := by decide +kernel
def RX1 : String := "PurseTrace$Debts"
def TX1 : u_T := fun k => match k with
  | 0 => ("PurseTrace$Debts", "debtor", "[I", true)
  | 1 => ("PurseTrace$Debts", "sum", "[I", true)
  | 2 => ("PurseTrace$Debts", "rank", "[I", true)
  | 3 => ("PurseTrace$Debts", "size", "I", false)
  | 4 => ("PurseTrace$Debts", "weights", "[I", true)
  | _ => ("PurseTrace$Debts", "parts", "[I", true)
def tyX1 : Nat → FieldType := fun k => match k with
  | 0 => .array .int
  | 1 => .array .int
  | 2 => .array .int
  | 3 => .int
  | 4 => .array .int
  | _ => .array .int
abbrev wsX10 : List Cond := u_ws RX1 TX1 6
theorem nmX1 : ∀ a, a < 6 → ∀ b, b < 6 → a ≠ b → (TX1 a).2.1 ≠ (TX1 b).2.1 := by decide +kernel
theorem tyX1_ok : ∀ k, k < 6 → parseFieldDescriptor (TX1 k).2.2.1 = some (tyX1 k) := by decide +kernel
def RX2 : String := "PurseTrace$Knowing"
def TX2 : u_T := fun k => match k with
  | 0 => ("PurseTrace$Knowing", "who", "[I", true)
  | 1 => ("PurseTrace$Knowing", "ofWhom", "[I", true)
  | 2 => ("PurseTrace$Knowing", "since", "[I", true)
  | 3 => ("PurseTrace$Knowing", "told", "[I", true)
  | _ => ("PurseTrace$Knowing", "size", "I", false)
def tyX2 : Nat → FieldType := fun k => match k with
  | 0 => .array .int
  | 1 => .array .int
  | 2 => .array .int
  | 3 => .array .int
  | _ => .int
abbrev wsX20 : List Cond := u_ws RX2 TX2 5
theorem nmX2 : ∀ a, a < 5 → ∀ b, b < 5 → a ≠ b → (TX2 a).2.1 ≠ (TX2 b).2.1 := by decide +kernel
theorem tyX2_ok : ∀ k, k < 5 → parseFieldDescriptor (TX2 k).2.2.1 = some (tyX2 k) := by decide +kernel
def RX3 : String := "PurseTrace$Lines"
def TX3 : u_T := fun k => match k with
  | 0 => ("PurseTrace$Lines", "kind", "[I", true)
  | 1 => ("PurseTrace$Lines", "purse", "[I", true)
  | 2 => ("PurseTrace$Lines", "other", "[I", true)
  | 3 => ("PurseTrace$Lines", "sum", "[I", true)
  | 4 => ("PurseTrace$Lines", "gave", "[Z", true)
  | 5 => ("PurseTrace$Lines", "day", "[I", true)
  | 6 => ("PurseTrace$Lines", "from", "[I", true)
  | 7 => ("PurseTrace$Lines", "to", "[I", true)
  | 8 => ("PurseTrace$Lines", "told", "[I", true)
  | 9 => ("PurseTrace$Lines", "struck", "[I", true)
  | 10 => ("PurseTrace$Lines", "sorted", "[I", true)
  | _ => ("PurseTrace$Lines", "size", "I", false)
def tyX3 : Nat → FieldType := fun k => match k with
  | 0 => .array .int
  | 1 => .array .int
  | 2 => .array .int
  | 3 => .array .int
  | 4 => .array .boolean
  | 5 => .array .int
  | 6 => .array .int
  | 7 => .array .int
  | 8 => .array .int
  | 9 => .array .int
  | 10 => .array .int
  | _ => .int
abbrev wsX30 : List Cond := u_ws RX3 TX3 12
theorem nmX3 : ∀ a, a < 12 → ∀ b, b < 12 → a ≠ b → (TX3 a).2.1 ≠ (TX3 b).2.1 := by decide +kernel
theorem tyX3_ok : ∀ k, k < 12 → parseFieldDescriptor (TX3 k).2.2.1 = some (tyX3 k) := by decide +kernel
def RX4 : String := "PurseTrace$Orders"
def TX4 : u_T := fun k => match k with
  | 0 => ("PurseTrace$Orders", "lines", "LPurseTrace$Lines;", true)
  | 1 => ("PurseTrace$Orders", "replay", "LPurseTrace$Replay;", true)
  | 2 => ("PurseTrace$Orders", "start", "I", false)
  | 3 => ("PurseTrace$Orders", "end", "I", false)
  | 4 => ("PurseTrace$Orders", "least", "I", false)
  | 5 => ("PurseTrace$Orders", "most", "I", false)
  | _ => ("PurseTrace$Orders", "lawful", "I", false)
def tyX4 : Nat → FieldType := fun k => match k with
  | 0 => .object "PurseTrace$Lines"
  | 1 => .object "PurseTrace$Replay"
  | 2 => .int
  | 3 => .int
  | 4 => .int
  | 5 => .int
  | _ => .int
abbrev wsX40 : List Cond := u_ws RX4 TX4 7
theorem nmX4 : ∀ a, a < 7 → ∀ b, b < 7 → a ≠ b → (TX4 a).2.1 ≠ (TX4 b).2.1 := by decide +kernel
theorem tyX4_ok : ∀ k, k < 7 → parseFieldDescriptor (TX4 k).2.2.1 = some (tyX4 k) := by decide +kernel
def RX5 : String := "PurseTrace$Purses"
def TX5 : u_T := fun k => match k with
  | 0 => ("PurseTrace$Purses", "holder", "[I", true)
  | 1 => ("PurseTrace$Purses", "land", "[I", true)
  | _ => ("PurseTrace$Purses", "size", "I", false)
def tyX5 : Nat → FieldType := fun k => match k with
  | 0 => .array .int
  | 1 => .array .int
  | _ => .int
abbrev wsX50 : List Cond := u_ws RX5 TX5 3
theorem nmX5 : ∀ a, a < 3 → ∀ b, b < 3 → a ≠ b → (TX5 a).2.1 ≠ (TX5 b).2.1 := by decide +kernel
theorem tyX5_ok : ∀ k, k < 3 → parseFieldDescriptor (TX5 k).2.2.1 = some (tyX5 k) := by decide +kernel
def RX6 : String := "PurseTrace$Replay"
def TX6 : u_T := fun k => match k with
  | 0 => ("PurseTrace$Replay", "purses", "LPurseTrace$Purses;", true)
  | 1 => ("PurseTrace$Replay", "lines", "LPurseTrace$Lines;", true)
  | 2 => ("PurseTrace$Replay", "book", "LPurseTrace$RuleBook;", true)
  | 3 => ("PurseTrace$Replay", "knowing", "LPurseTrace$Knowing;", true)
  | 4 => ("PurseTrace$Replay", "state", "LPurseTrace$State;", true)
  | 5 => ("PurseTrace$Replay", "kept", "LPurseTrace$State;", true)
  | 6 => ("PurseTrace$Replay", "order", "[I", true)
  | 7 => ("PurseTrace$Replay", "listed", "I", false)
  | 8 => ("PurseTrace$Replay", "forced", "[I", true)
  | 9 => ("PurseTrace$Replay", "known", "I", false)
  | 10 => ("PurseTrace$Replay", "wayTaken", "I", false)
  | 11 => ("PurseTrace$Replay", "rises", "Z", false)
  | 12 => ("PurseTrace$Replay", "ends", "Z", false)
  | 13 => ("PurseTrace$Replay", "failed", "Z", false)
  | 14 => ("PurseTrace$Replay", "failures", "I", false)
  | 15 => ("PurseTrace$Replay", "weights", "[I", true)
  | _ => ("PurseTrace$Replay", "gains", "[I", true)
def tyX6 : Nat → FieldType := fun k => match k with
  | 0 => .object "PurseTrace$Purses"
  | 1 => .object "PurseTrace$Lines"
  | 2 => .object "PurseTrace$RuleBook"
  | 3 => .object "PurseTrace$Knowing"
  | 4 => .object "PurseTrace$State"
  | 5 => .object "PurseTrace$State"
  | 6 => .array .int
  | 7 => .int
  | 8 => .array .int
  | 9 => .int
  | 10 => .int
  | 11 => .boolean
  | 12 => .boolean
  | 13 => .boolean
  | 14 => .int
  | 15 => .array .int
  | _ => .array .int
abbrev wsX60 : List Cond := u_ws RX6 TX6 17
theorem nmX6 : ∀ a, a < 17 → ∀ b, b < 17 → a ≠ b → (TX6 a).2.1 ≠ (TX6 b).2.1 := by decide +kernel
theorem tyX6_ok : ∀ k, k < 17 → parseFieldDescriptor (TX6 k).2.2.1 = some (tyX6 k) := by decide +kernel
def RX7 : String := "PurseTrace$RuleBook"
def TX7 : u_T := fun k => match k with
  | 0 => ("PurseTrace$RuleBook", "land", "[I", true)
  | 1 => ("PurseTrace$RuleBook", "from", "[I", true)
  | 2 => ("PurseTrace$RuleBook", "to", "[I", true)
  | 3 => ("PurseTrace$RuleBook", "told", "[I", true)
  | 4 => ("PurseTrace$RuleBook", "clauses", "[I", true)
  | 5 => ("PurseTrace$RuleBook", "letter", "[I", true)
  | 6 => ("PurseTrace$RuleBook", "first", "[I", true)
  | 7 => ("PurseTrace$RuleBook", "second", "[I", true)
  | 8 => ("PurseTrace$RuleBook", "codeStart", "[I", true)
  | 9 => ("PurseTrace$RuleBook", "codeEnd", "[I", true)
  | 10 => ("PurseTrace$RuleBook", "code", "[I", true)
  | 11 => ("PurseTrace$RuleBook", "struck", "[I", true)
  | 12 => ("PurseTrace$RuleBook", "stack", "[J", true)
  | 13 => ("PurseTrace$RuleBook", "facts", "[J", true)
  | _ => ("PurseTrace$RuleBook", "size", "I", false)
def tyX7 : Nat → FieldType := fun k => match k with
  | 0 => .array .int
  | 1 => .array .int
  | 2 => .array .int
  | 3 => .array .int
  | 4 => .array .int
  | 5 => .array .int
  | 6 => .array .int
  | 7 => .array .int
  | 8 => .array .int
  | 9 => .array .int
  | 10 => .array .int
  | 11 => .array .int
  | 12 => .array .long
  | 13 => .array .long
  | _ => .int
abbrev wsX70 : List Cond := u_ws RX7 TX7 15
theorem nmX7 : ∀ a, a < 15 → ∀ b, b < 15 → a ≠ b → (TX7 a).2.1 ≠ (TX7 b).2.1 := by decide +kernel
theorem tyX7_ok : ∀ k, k < 15 → parseFieldDescriptor (TX7 k).2.2.1 = some (tyX7 k) := by decide +kernel
def RX8 : String := "PurseTrace$RuleReader"
def TX8 : u_T := fun k => match k with
  | 0 => ("PurseTrace$RuleReader", "tape", "LPurseTrace$Tape;", true)
  | 1 => ("PurseTrace$RuleReader", "book", "LPurseTrace$RuleBook;", true)
  | 2 => ("PurseTrace$RuleReader", "size", "I", false)
  | 3 => ("PurseTrace$RuleReader", "at", "I", false)
  | 4 => ("PurseTrace$RuleReader", "fault", "I", false)
  | 5 => ("PurseTrace$RuleReader", "place", "I", false)
  | 6 => ("PurseTrace$RuleReader", "base", "I", false)
  | _ => ("PurseTrace$RuleReader", "used", "I", false)
def tyX8 : Nat → FieldType := fun k => match k with
  | 0 => .object "PurseTrace$Tape"
  | 1 => .object "PurseTrace$RuleBook"
  | 2 => .int
  | 3 => .int
  | 4 => .int
  | 5 => .int
  | 6 => .int
  | _ => .int
abbrev wsX80 : List Cond := u_ws RX8 TX8 8
theorem nmX8 : ∀ a, a < 8 → ∀ b, b < 8 → a ≠ b → (TX8 a).2.1 ≠ (TX8 b).2.1 := by decide +kernel
theorem tyX8_ok : ∀ k, k < 8 → parseFieldDescriptor (TX8 k).2.2.1 = some (tyX8 k) := by decide +kernel
def RX9 : String := "PurseTrace$State"
def TX9 : u_T := fun k => match k with
  | 0 => ("PurseTrace$State", "where", "[I", true)
  | 1 => ("PurseTrace$State", "whose", "[I", true)
  | 2 => ("PurseTrace$State", "much", "[I", true)
  | 3 => ("PurseTrace$State", "size", "I", false)
  | 4 => ("PurseTrace$State", "last", "[I", true)
  | 5 => ("PurseTrace$State", "shares", "[I", true)
  | 6 => ("PurseTrace$State", "losses", "[I", true)
  | 7 => ("PurseTrace$State", "takenWhose", "[I", true)
  | 8 => ("PurseTrace$State", "takenMuch", "[I", true)
  | 9 => ("PurseTrace$State", "taken", "I", false)
  | 10 => ("PurseTrace$State", "got", "[I", true)
  | 11 => ("PurseTrace$State", "have", "[I", true)
  | _ => ("PurseTrace$State", "quota", "[I", true)
def tyX9 : Nat → FieldType := fun k => match k with
  | 0 => .array .int
  | 1 => .array .int
  | 2 => .array .int
  | 3 => .int
  | 4 => .array .int
  | 5 => .array .int
  | 6 => .array .int
  | 7 => .array .int
  | 8 => .array .int
  | 9 => .int
  | 10 => .array .int
  | 11 => .array .int
  | _ => .array .int
abbrev wsX90 : List Cond := u_ws RX9 TX9 13
theorem nmX9 : ∀ a, a < 13 → ∀ b, b < 13 → a ≠ b → (TX9 a).2.1 ≠ (TX9 b).2.1 := by decide +kernel
theorem tyX9_ok : ∀ k, k < 13 → parseFieldDescriptor (TX9 k).2.2.1 = some (tyX9 k) := by decide +kernel
def RX10 : String := "PurseTrace$Tape"
def TX10 : u_T := fun k => match k with
  | 0 => ("PurseTrace$Tape", "bytes", "[I", true)
  | _ => ("PurseTrace$Tape", "size", "I", false)
def tyX10 : Nat → FieldType := fun k => match k with
  | 0 => .array .int
  | _ => .int
abbrev wsX100 : List Cond := u_ws RX10 TX10 2
theorem nmX10 : ∀ a, a < 2 → ∀ b, b < 2 → a ≠ b → (TX10 a).2.1 ≠ (TX10 b).2.1 := by decide +kernel
theorem tyX10_ok : ∀ k, k < 2 → parseFieldDescriptor (TX10 k).2.2.1 = some (tyX10 k) := by decide +kernel
def RX11 : String := "PurseTrace"
def TX11 : u_T := fun k => match k with
  | 0 => ("PurseTrace", "tape", "LPurseTrace$Tape;", true)
  | 1 => ("PurseTrace", "purses", "LPurseTrace$Purses;", true)
  | 2 => ("PurseTrace", "lines", "LPurseTrace$Lines;", true)
  | 3 => ("PurseTrace", "knowing", "LPurseTrace$Knowing;", true)
  | 4 => ("PurseTrace", "book", "LPurseTrace$RuleBook;", true)
  | 5 => ("PurseTrace", "reader", "LPurseTrace$RuleReader;", true)
  | 6 => ("PurseTrace", "replay", "LPurseTrace$Replay;", true)
  | 7 => ("PurseTrace", "orders", "LPurseTrace$Orders;", true)
  | 8 => ("PurseTrace", "choices", "LPurseTrace$Choices;", true)
  | 9 => ("PurseTrace", "debts", "LPurseTrace$Debts;", true)
  | 10 => ("PurseTrace", "today", "I", false)
  | 11 => ("PurseTrace", "persons", "I", false)
  | _ => ("PurseTrace", "things", "I", false)
def tyX11 : Nat → FieldType := fun k => match k with
  | 0 => .object "PurseTrace$Tape"
  | 1 => .object "PurseTrace$Purses"
  | 2 => .object "PurseTrace$Lines"
  | 3 => .object "PurseTrace$Knowing"
  | 4 => .object "PurseTrace$RuleBook"
  | 5 => .object "PurseTrace$RuleReader"
  | 6 => .object "PurseTrace$Replay"
  | 7 => .object "PurseTrace$Orders"
  | 8 => .object "PurseTrace$Choices"
  | 9 => .object "PurseTrace$Debts"
  | 10 => .int
  | 11 => .int
  | _ => .int
abbrev wsX110 : List Cond := u_ws RX11 TX11 13
theorem nmX11 : ∀ a, a < 13 → ∀ b, b < 13 → a ≠ b → (TX11 a).2.1 ≠ (TX11 b).2.1 := by decide +kernel
theorem tyX11_ok : ∀ k, k < 13 → parseFieldDescriptor (TX11 k).2.2.1 = some (tyX11 k) := by decide +kernel
def RX12 : String := "PurseTraceModel"
def TX12 : u_T := fun k => match k with
  | 0 => ("PurseTraceModel", "tape", "[B", true)
  | 1 => ("PurseTraceModel", "taped", "I", false)
  | 2 => ("PurseTraceModel", "now", "I", false)
  | 3 => ("PurseTraceModel", "persons", "I", false)
  | 4 => ("PurseTraceModel", "purses", "I", false)
  | 5 => ("PurseTraceModel", "things", "I", false)
  | 6 => ("PurseTraceModel", "lines", "I", false)
  | 7 => ("PurseTraceModel", "rules", "I", false)
  | 8 => ("PurseTraceModel", "tellings", "I", false)
  | 9 => ("PurseTraceModel", "debts", "I", false)
  | 10 => ("PurseTraceModel", "bars", "I", false)
  | 11 => ("PurseTraceModel", "holder", "[I", true)
  | 12 => ("PurseTraceModel", "land", "[I", true)
  | 13 => ("PurseTraceModel", "kind", "[I", true)
  | 14 => ("PurseTraceModel", "purse", "[I", true)
  | 15 => ("PurseTraceModel", "what", "[I", true)
  | 16 => ("PurseTraceModel", "sum", "[I", true)
  | 17 => ("PurseTraceModel", "day", "[I", true)
  | 18 => ("PurseTraceModel", "hourFrom", "[I", true)
  | 19 => ("PurseTraceModel", "hourTo", "[I", true)
  | 20 => ("PurseTraceModel", "told", "[I", true)
  | 21 => ("PurseTraceModel", "struckOn", "[I", true)
  | 22 => ("PurseTraceModel", "gave", "[Z", true)
  | 23 => ("PurseTraceModel", "ruleLand", "[I", true)
  | 24 => ("PurseTraceModel", "ruleFrom", "[I", true)
  | 25 => ("PurseTraceModel", "ruleTo", "[I", true)
  | 26 => ("PurseTraceModel", "ruleTold", "[I", true)
  | 27 => ("PurseTraceModel", "clauses", "[I", true)
  | 28 => ("PurseTraceModel", "letter", "[I", true)
  | 29 => ("PurseTraceModel", "first", "[I", true)
  | 30 => ("PurseTraceModel", "second", "[I", true)
  | 31 => ("PurseTraceModel", "codeFrom", "[I", true)
  | 32 => ("PurseTraceModel", "codeTo", "[I", true)
  | 33 => ("PurseTraceModel", "code", "[I", true)
  | 34 => ("PurseTraceModel", "codeArg", "[I", true)
  | 35 => ("PurseTraceModel", "place", "I", false)
  | 36 => ("PurseTraceModel", "end", "I", false)
  | 37 => ("PurseTraceModel", "bad", "I", false)
  | 38 => ("PurseTraceModel", "many", "I", false)
  | 39 => ("PurseTraceModel", "codes", "I", false)
  | 40 => ("PurseTraceModel", "open", "I", false)
  | 41 => ("PurseTraceModel", "stacked", "I", false)
  | 42 => ("PurseTraceModel", "isDone", "Z", false)
  | 43 => ("PurseTraceModel", "isBehind", "Z", false)
  | 44 => ("PurseTraceModel", "stack", "[I", true)
  | 45 => ("PurseTraceModel", "knower", "[I", true)
  | 46 => ("PurseTraceModel", "known", "[I", true)
  | 47 => ("PurseTraceModel", "knowsFrom", "[I", true)
  | 48 => ("PurseTraceModel", "knowsTold", "[I", true)
  | 49 => ("PurseTraceModel", "parts", "[I", true)
  | 50 => ("PurseTraceModel", "partWho", "[I", true)
  | 51 => ("PurseTraceModel", "partSum", "[I", true)
  | 52 => ("PurseTraceModel", "shares", "[I", true)
  | 53 => ("PurseTraceModel", "lost", "[I", true)
  | 54 => ("PurseTraceModel", "taken", "I", false)
  | 55 => ("PurseTraceModel", "takenWho", "[I", true)
  | 56 => ("PurseTraceModel", "takenSum", "[I", true)
  | 57 => ("PurseTraceModel", "got", "[I", true)
  | 58 => ("PurseTraceModel", "other", "[I", true)
  | 59 => ("PurseTraceModel", "value", "[J", true)
  | 60 => ("PurseTraceModel", "isRefused", "[Z", true)
  | 61 => ("PurseTraceModel", "isStruck", "[Z", true)
  | 62 => ("PurseTraceModel", "came", "[I", true)
  | 63 => ("PurseTraceModel", "rows", "I", false)
  | 64 => ("PurseTraceModel", "row", "[I", true)
  | 65 => ("PurseTraceModel", "orders", "I", false)
  | 66 => ("PurseTraceModel", "leastSure", "I", false)
  | 67 => ("PurseTraceModel", "mostSure", "I", false)
  | 68 => ("PurseTraceModel", "dayRow", "[I", true)
  | 69 => ("PurseTraceModel", "order", "[I", true)
  | 70 => ("PurseTraceModel", "choices", "[I", true)
  | 71 => ("PurseTraceModel", "barP", "[I", true)
  | 72 => ("PurseTraceModel", "barW", "[I", true)
  | 73 => ("PurseTraceModel", "barQ", "[I", true)
  | 74 => ("PurseTraceModel", "barV", "[I", true)
  | 75 => ("PurseTraceModel", "bestRow", "I", false)
  | 76 => ("PurseTraceModel", "bestWorth", "I", false)
  | 77 => ("PurseTraceModel", "debtor", "[I", true)
  | 78 => ("PurseTraceModel", "creditor", "[I", true)
  | 79 => ("PurseTraceModel", "debtSum", "[I", true)
  | 80 => ("PurseTraceModel", "rank", "[I", true)
  | _ => ("PurseTraceModel", "paid", "[I", true)
def tyX12 : Nat → FieldType := fun k => match k with
  | 0 => .array .byte
  | 1 => .int
  | 2 => .int
  | 3 => .int
  | 4 => .int
  | 5 => .int
  | 6 => .int
  | 7 => .int
  | 8 => .int
  | 9 => .int
  | 10 => .int
  | 11 => .array .int
  | 12 => .array .int
  | 13 => .array .int
  | 14 => .array .int
  | 15 => .array .int
  | 16 => .array .int
  | 17 => .array .int
  | 18 => .array .int
  | 19 => .array .int
  | 20 => .array .int
  | 21 => .array .int
  | 22 => .array .boolean
  | 23 => .array .int
  | 24 => .array .int
  | 25 => .array .int
  | 26 => .array .int
  | 27 => .array .int
  | 28 => .array .int
  | 29 => .array .int
  | 30 => .array .int
  | 31 => .array .int
  | 32 => .array .int
  | 33 => .array .int
  | 34 => .array .int
  | 35 => .int
  | 36 => .int
  | 37 => .int
  | 38 => .int
  | 39 => .int
  | 40 => .int
  | 41 => .int
  | 42 => .boolean
  | 43 => .boolean
  | 44 => .array .int
  | 45 => .array .int
  | 46 => .array .int
  | 47 => .array .int
  | 48 => .array .int
  | 49 => .array .int
  | 50 => .array .int
  | 51 => .array .int
  | 52 => .array .int
  | 53 => .array .int
  | 54 => .int
  | 55 => .array .int
  | 56 => .array .int
  | 57 => .array .int
  | 58 => .array .int
  | 59 => .array .long
  | 60 => .array .boolean
  | 61 => .array .boolean
  | 62 => .array .int
  | 63 => .int
  | 64 => .array .int
  | 65 => .int
  | 66 => .int
  | 67 => .int
  | 68 => .array .int
  | 69 => .array .int
  | 70 => .array .int
  | 71 => .array .int
  | 72 => .array .int
  | 73 => .array .int
  | 74 => .array .int
  | 75 => .int
  | 76 => .int
  | 77 => .array .int
  | 78 => .array .int
  | 79 => .array .int
  | 80 => .array .int
  | _ => .array .int
abbrev wsX120 : List Cond := u_ws RX12 TX12 82
theorem nmX12 : ∀ a, a < 82 → ∀ b, b < 82 → a ≠ b → (TX12 a).2.1 ≠ (TX12 b).2.1 := by decide +kernel
theorem tyX12_ok : ∀ k, k < 82 → parseFieldDescriptor (TX12 k).2.2.1 = some (tyX12 k) := by decide +kernel
def RJ9 : String := "java/lang/Math"
def RJ10 : String := "java/lang/System"
def RJ7 : String := "java/util/Arrays"
def RL : String := "PurseTraceLaw"
abbrev am_cls : List vw_C := [(RX0, TX0, 12), (RX1, TX1, 6), (RX2, TX2, 5), (RX3, TX3, 12), (RX4, TX4, 7), (RX5, TX5, 3), (RX6, TX6, 17), (RX7, TX7, 15), (RX8, TX8, 8), (RX9, TX9, 13), (RX10, TX10, 2), (RX11, TX11, 13), (RX12, TX12, 82)]
noncomputable def am_myL : List (List (MethodName × ByteArray)) := [[(⟨RL, "law", "([I)Z"⟩, code), (⟨RX0, "set", "(II)Z"⟩, prog_2_method_2_code), (⟨RX0, "addBar", "(II)Z"⟩, prog_2_method_3_code), (⟨RX0, "isBarred", "(II)Z"⟩, prog_2_method_4_code), (⟨RX0, "rows", "()I"⟩, prog_2_method_5_code), (⟨RX0, "prepare", "(I)V"⟩, prog_2_method_6_code), (⟨RX0, "isChanged", "(I)Z"⟩, prog_2_method_7_code), (⟨RX0, "search", "(II)V"⟩, prog_2_method_8_code), (⟨RX0, "spellFromFirst", "(I)V"⟩, prog_2_method_9_code), (⟨RX0, "spellFromLast", "(I)V"⟩, prog_2_method_10_code), (⟨RX0, "isLawful", "()Z"⟩, prog_2_method_11_code), (⟨RX0, "worth", "(I)I"⟩, prog_2_method_12_code), (⟨RX1, "add", "(III)I"⟩, prog_3_method_2_code), (⟨RX1, "settle", "(II)I"⟩, prog_3_method_3_code), (⟨RX1, "gather", "(II)I"⟩, prog_3_method_4_code), (⟨RX2, "add", "(IIII)Z"⟩, prog_4_method_2_code)],
  [(⟨RX2, "knew", "(IIII)Z"⟩, prog_4_method_3_code), (⟨RX3, "begin", "(IIIIZ)V"⟩, prog_5_method_2_code), (⟨RX3, "end", "(IIII)I"⟩, prog_5_method_3_code), (⟨RX3, "sortIn", "(I)V"⟩, prog_5_method_4_code), (⟨RX3, "isLater", "(II)Z"⟩, prog_5_method_5_code), (⟨RX3, "isKnown", "(II)Z"⟩, prog_5_method_6_code), (⟨RX3, "takes", "(I)Z"⟩, prog_5_method_7_code), (⟨RX4, "weigh", "(IIII)Z"⟩, prog_6_method_2_code), (⟨RX4, "note", "(I)V"⟩, prog_6_method_3_code), (⟨RX4, "findDay", "(I)V"⟩, prog_6_method_4_code), (⟨RX4, "isLawful", "()Z"⟩, prog_6_method_5_code), (⟨RX4, "sortByNumber", "()V"⟩, prog_6_method_6_code), (⟨RX4, "goToNext", "()Z"⟩, prog_6_method_7_code), (⟨RX4, "swap", "(II)V"⟩, prog_6_method_8_code), (⟨RX5, "add", "(II)I"⟩, prog_7_method_2_code), (⟨RX6, "list", "(II)V"⟩, prog_8_method_2_code)],
  [(⟨RX6, "playAll", "(II)V"⟩, prog_8_method_3_code), (⟨RX6, "playThrough", "(II)Z"⟩, prog_8_method_4_code), (⟨RX6, "keep", "()V"⟩, prog_8_method_5_code), (⟨RX6, "goBack", "()V"⟩, prog_8_method_6_code), (⟨RX6, "play", "(II)V"⟩, prog_8_method_7_code), (⟨RX6, "decide", "(I)V"⟩, prog_8_method_8_code), (⟨RX6, "gatherFacts", "(I)V"⟩, prog_8_method_9_code), (⟨RX6, "act", "(I)V"⟩, prog_8_method_10_code), (⟨RX6, "moveOn", "(I)V"⟩, prog_8_method_11_code), (⟨RX6, "spend", "(I)V"⟩, prog_8_method_12_code), (⟨RX6, "buy", "(I)V"⟩, prog_8_method_13_code), (⟨RX6, "sell", "(III)V"⟩, prog_8_method_14_code), (⟨RX6, "makeGood", "(III)V"⟩, prog_8_method_15_code), (⟨RX6, "ownOf", "(I)I"⟩, prog_8_method_16_code), (⟨RX6, "claimOf", "(I)I"⟩, prog_8_method_17_code), (⟨RX7, "add", "(IIII)I"⟩, prog_9_method_2_code)],
  [(⟨RX7, "clausesOf", "(I)I"⟩, prog_9_method_3_code), (⟨RX7, "find", "(IIII)I"⟩, prog_9_method_4_code), (⟨RX7, "isInForce", "(IIII)Z"⟩, prog_9_method_5_code), (⟨RX7, "strikeLower", "(II)V"⟩, prog_9_method_6_code), (⟨RX7, "holds", "(I)Z"⟩, prog_9_method_7_code), (⟨RX7, "reckon", "(IJJ)J"⟩, prog_9_method_8_code), (⟨RX8, "read", "(I)I"⟩, prog_10_method_2_code), (⟨RX8, "readClause", "(II)V"⟩, prog_10_method_3_code), (⟨RX8, "readCondition", "(I)V"⟩, prog_10_method_4_code), (⟨RX8, "readPart", "(I)V"⟩, prog_10_method_5_code), (⟨RX8, "readPiece", "(I)V"⟩, prog_10_method_6_code), (⟨RX8, "readSum", "(I)V"⟩, prog_10_method_7_code), (⟨RX8, "readTerm", "(I)V"⟩, prog_10_method_8_code), (⟨RX8, "readFactor", "(I)V"⟩, prog_10_method_9_code), (⟨RX8, "readNumber", "(I)I"⟩, prog_10_method_10_code), (⟨RX8, "mayOpen", "(I)Z"⟩, prog_10_method_11_code)],
  [(⟨RX8, "pass", "(I)V"⟩, prog_10_method_12_code), (⟨RX8, "fail", "(II)V"⟩, prog_10_method_13_code), (⟨RX8, "peek", "()I"⟩, prog_10_method_14_code), (⟨RX8, "emit", "(II)I"⟩, prog_10_method_15_code), (⟨RX8, "aim", "(II)V"⟩, prog_10_method_16_code), (⟨RX8, "isDigit", "(I)Z"⟩, prog_10_method_17_code), (⟨RX8, "comparison", "(I)I"⟩, prog_10_method_18_code), (⟨RX8, "multiplication", "(I)I"⟩, prog_10_method_19_code), (⟨RX8, "fact", "(I)I"⟩, prog_10_method_20_code), (⟨RX9, "clear", "()V"⟩, prog_11_method_2_code), (⟨RX9, "copyFrom", "(LPurseTrace$State;)V"⟩, prog_11_method_3_code), (⟨RX9, "forgetTaken", "()V"⟩, prog_11_method_4_code), (⟨RX9, "put", "(III)V"⟩, prog_11_method_5_code), (⟨RX9, "receive", "(III)V"⟩, prog_11_method_6_code), (⟨RX9, "takeOut", "(IIII)V"⟩, prog_11_method_7_code), (⟨RX9, "takeFromLast", "(II)V"⟩, prog_11_method_8_code)],
  [(⟨RX9, "takeOf", "(III)I"⟩, prog_11_method_9_code), (⟨RX9, "takeOthers", "(III)I"⟩, prog_11_method_10_code), (⟨RX9, "grab", "(II)I"⟩, prog_11_method_11_code), (⟨RX9, "tidy", "()V"⟩, prog_11_method_12_code), (⟨RX9, "measure", "(I)I"⟩, prog_11_method_13_code), (⟨RX9, "held", "(II)I"⟩, prog_11_method_14_code), (⟨RX9, "shareOf", "(II)I"⟩, prog_11_method_15_code), (⟨RX9, "placeOf", "(II)I"⟩, prog_11_method_16_code), (⟨RX10, "hasRoom", "()Z"⟩, prog_12_method_2_code), (⟨RX10, "append", "(I)V"⟩, prog_12_method_3_code), (⟨RX10, "byteAt", "(I)I"⟩, prog_12_method_4_code), (⟨RX10, "number", "(I)I"⟩, prog_12_method_5_code), (⟨RX11, "now", "(I)Z"⟩, prog_1_method_2_code), (⟨RX11, "person", "()I"⟩, prog_1_method_3_code), (⟨RX11, "purse", "(II)I"⟩, prog_1_method_4_code), (⟨RX11, "thing", "()I"⟩, prog_1_method_5_code)],
  [(⟨RX11, "line", "(IIIIIII)I"⟩, prog_1_method_6_code), (⟨RX11, "move", "(IIIZIII)I"⟩, prog_1_method_7_code), (⟨RX11, "deal", "(ZIIIIII)I"⟩, prog_1_method_8_code), (⟨RX11, "strike", "(I)Z"⟩, prog_1_method_9_code), (⟨RX11, "feed", "(IIIII)I"⟩, prog_1_method_10_code), (⟨RX11, "rules", "(IIII)I"⟩, prog_1_method_11_code), (⟨RX11, "knows", "(III)Z"⟩, prog_1_method_12_code), (⟨RX11, "left", "(IIII)I"⟩, prog_1_method_13_code), (⟨RX11, "share", "(IIII)I"⟩, prog_1_method_14_code), (⟨RX11, "lost", "(IIII)I"⟩, prog_1_method_15_code), (⟨RX11, "part", "(III)I"⟩, prog_1_method_16_code), (⟨RX11, "took", "(III)I"⟩, prog_1_method_17_code), (⟨RX11, "way", "(II)I"⟩, prog_1_method_18_code), (⟨RX11, "fails", "(I)I"⟩, prog_1_method_19_code), (⟨RX11, "sure", "(IIII)I"⟩, prog_1_method_20_code), (⟨RX11, "beside", "(IIII)I"⟩, prog_1_method_21_code)],
  [(⟨RX11, "choose", "(II)Z"⟩, prog_1_method_22_code), (⟨RX11, "bar", "(IIII)Z"⟩, prog_1_method_23_code), (⟨RX11, "best", "(I)I"⟩, prog_1_method_24_code), (⟨RX11, "chosen", "(II)I"⟩, prog_1_method_25_code), (⟨RX11, "judge", "(II)I"⟩, prog_1_method_26_code), (⟨RX11, "debt", "(IIII)I"⟩, prog_1_method_27_code), (⟨RX11, "paid", "(I)I"⟩, prog_1_method_28_code), (⟨RX11, "check", "(I)I"⟩, prog_1_method_29_code), (⟨RX11, "look", "(II)I"⟩, prog_1_method_30_code), (⟨RX11, "count", "(I)I"⟩, prog_1_method_31_code), (⟨RX11, "firstWrong", "(I)I"⟩, prog_1_method_32_code), (⟨RX11, "wrongInThree", "(IIII)I"⟩, prog_1_method_33_code), (⟨RX11, "mayDate", "(III)Z"⟩, prog_1_method_34_code), (⟨RX11, "isPerson", "(I)Z"⟩, prog_1_method_35_code), (⟨RX11, "isPersonOrAll", "(I)Z"⟩, prog_1_method_36_code), (⟨RX11, "isPurse", "(I)Z"⟩, prog_1_method_37_code)],
  [(⟨RX11, "isThing", "(I)Z"⟩, prog_1_method_38_code), (⟨RX11, "isLine", "(I)Z"⟩, prog_1_method_39_code), (⟨RX11, "isDay", "(I)Z"⟩, prog_1_method_40_code), (⟨RX11, "isSum", "(I)Z"⟩, prog_1_method_41_code), (⟨RX11, "isWay", "(I)Z"⟩, prog_1_method_42_code), (⟨RX11, "portion", "(I[I[I)V"⟩, prog_1_method_43_code), (⟨RX12, "lies", "(JJJ)Z"⟩, prog_14_method_2_code), (⟨RX12, "has", "(II)Z"⟩, prog_14_method_3_code), (⟨RX12, "isPerson", "(I)Z"⟩, prog_14_method_4_code), (⟨RX12, "isPurse", "(I)Z"⟩, prog_14_method_5_code), (⟨RX12, "isThing", "(I)Z"⟩, prog_14_method_6_code), (⟨RX12, "isDay", "(I)Z"⟩, prog_14_method_7_code), (⟨RX12, "now", "(I)Z"⟩, prog_14_method_8_code), (⟨RX12, "person", "()I"⟩, prog_14_method_9_code), (⟨RX12, "purse", "(II)I"⟩, prog_14_method_10_code), (⟨RX12, "thing", "()I"⟩, prog_14_method_11_code)],
  [(⟨RX12, "adds", "(IIIIZIII)I"⟩, prog_14_method_12_code), (⟨RX12, "line", "(IIIIIII)I"⟩, prog_14_method_13_code), (⟨RX12, "move", "(IIIZIII)I"⟩, prog_14_method_14_code), (⟨RX12, "deal", "(ZIIIIII)I"⟩, prog_14_method_15_code), (⟨RX12, "isLine", "(I)Z"⟩, prog_14_method_16_code), (⟨RX12, "strike", "(I)Z"⟩, prog_14_method_17_code), (⟨RX12, "push", "(I)V"⟩, prog_14_method_18_code), (⟨RX12, "feed", "(IIIII)I"⟩, prog_14_method_19_code), (⟨RX12, "here", "()I"⟩, prog_14_method_20_code), (⟨RX12, "wrongs", "(II)V"⟩, prog_14_method_21_code), (⟨RX12, "isGood", "()Z"⟩, prog_14_method_22_code), (⟨RX12, "emit", "(II)V"⟩, prog_14_method_23_code), (⟨RX12, "top", "()I"⟩, prog_14_method_24_code), (⟨RX12, "puts", "(I)V"⟩, prog_14_method_25_code), (⟨RX12, "opens", "()V"⟩, prog_14_method_26_code), (⟨RX12, "seesDigit", "()Z"⟩, prog_14_method_27_code)],
  [(⟨RX12, "reads", "(I)I"⟩, prog_14_method_28_code), (⟨RX12, "must", "(I)V"⟩, prog_14_method_29_code), (⟨RX12, "isTimes", "(I)Z"⟩, prog_14_method_30_code), (⟨RX12, "isPlus", "(I)Z"⟩, prog_14_method_31_code), (⟨RX12, "isSign", "(I)Z"⟩, prog_14_method_32_code), (⟨RX12, "isValue", "(I)Z"⟩, prog_14_method_33_code), (⟨RX12, "sums", "(Z)V"⟩, prog_14_method_34_code), (⟨RX12, "joins", "(Z)V"⟩, prog_14_method_35_code), (⟨RX12, "ends", "()V"⟩, prog_14_method_36_code), (⟨RX12, "factor", "()V"⟩, prog_14_method_37_code), (⟨RX12, "goesOn", "()Z"⟩, prog_14_method_38_code), (⟨RX12, "piece", "()V"⟩, prog_14_method_39_code), (⟨RX12, "goesBehind", "()Z"⟩, prog_14_method_40_code), (⟨RX12, "condition", "()V"⟩, prog_14_method_41_code), (⟨RX12, "clause", "()V"⟩, prog_14_method_42_code), (⟨RX12, "rules", "(IIII)I"⟩, prog_14_method_43_code)],
  [(⟨RX12, "knows", "(III)Z"⟩, prog_14_method_44_code), (⟨RX12, "knew", "(IIII)Z"⟩, prog_14_method_45_code), (⟨RX12, "empties", "()V"⟩, prog_14_method_46_code), (⟨RX12, "lays", "(III)V"⟩, prog_14_method_47_code), (⟨RX12, "allOf", "(I)I"⟩, prog_14_method_48_code), (⟨RX12, "of", "(II)I"⟩, prog_14_method_49_code), (⟨RX12, "some", "(I)I"⟩, prog_14_method_50_code), (⟨RX12, "takes", "(II)V"⟩, prog_14_method_51_code), (⟨RX12, "takesPart", "(II)I"⟩, prog_14_method_52_code), (⟨RX12, "takesOf", "(IIZI)I"⟩, prog_14_method_53_code), (⟨RX12, "takesByParts", "(II)V"⟩, prog_14_method_54_code), (⟨RX12, "closes", "(I)V"⟩, prog_14_method_55_code), (⟨RX12, "takesOut", "(III)V"⟩, prog_14_method_56_code), (⟨RX12, "valueOf", "(II)I"⟩, prog_14_method_57_code), (⟨RX12, "worked", "(IJJ)J"⟩, prog_14_method_58_code), (⟨RX12, "does", "(II)V"⟩, prog_14_method_59_code)],
  [(⟨RX12, "holds", "(II)Z"⟩, prog_14_method_60_code), (⟨RX12, "isAmong", "(IIII)Z"⟩, prog_14_method_61_code), (⟨RX12, "clauseOf", "(IIII)I"⟩, prog_14_method_62_code), (⟨RX12, "wayOf", "(II)I"⟩, prog_14_method_63_code), (⟨RX12, "moves", "(IZI)V"⟩, prog_14_method_64_code), (⟨RX12, "spends", "(I)V"⟩, prog_14_method_65_code), (⟨RX12, "buys", "(I)V"⟩, prog_14_method_66_code), (⟨RX12, "partsOut", "(III)V"⟩, prog_14_method_67_code), (⟨RX12, "sells", "(II)V"⟩, prog_14_method_68_code), (⟨RX12, "makesGood", "(I)V"⟩, prog_14_method_69_code), (⟨RX12, "acts", "(II)Z"⟩, prog_14_method_70_code), (⟨RX12, "isKnown", "(II)Z"⟩, prog_14_method_71_code), (⟨RX12, "isAhead", "(II)Z"⟩, prog_14_method_72_code), (⟨RX12, "lists", "(II)V"⟩, prog_14_method_73_code), (⟨RX12, "plays", "(II)V"⟩, prog_14_method_74_code), (⟨RX12, "isAsked", "(II)Z"⟩, prog_14_method_75_code)],
  [(⟨RX12, "left", "(IIII)I"⟩, prog_14_method_76_code), (⟨RX12, "share", "(IIII)I"⟩, prog_14_method_77_code), (⟨RX12, "lost", "(IIII)I"⟩, prog_14_method_78_code), (⟨RX12, "part", "(III)I"⟩, prog_14_method_79_code), (⟨RX12, "playsTo", "(II)Z"⟩, prog_14_method_80_code), (⟨RX12, "takesAny", "(I)Z"⟩, prog_14_method_81_code), (⟨RX12, "took", "(III)I"⟩, prog_14_method_82_code), (⟨RX12, "way", "(II)I"⟩, prog_14_method_83_code), (⟨RX12, "fails", "(I)I"⟩, prog_14_method_84_code), (⟨RX12, "mayBe", "(I)Z"⟩, prog_14_method_85_code), (⟨RX12, "playsOrder", "(IIII)V"⟩, prog_14_method_86_code), (⟨RX12, "turns", "(I)Z"⟩, prog_14_method_87_code), (⟨RX12, "sure", "(IIII)I"⟩, prog_14_method_88_code), (⟨RX12, "isWay", "(I)Z"⟩, prog_14_method_89_code), (⟨RX12, "beside", "(IIII)I"⟩, prog_14_method_90_code), (⟨RX12, "choosing", "()I"⟩, prog_14_method_91_code)],
  [(⟨RX12, "choose", "(II)Z"⟩, prog_14_method_92_code), (⟨RX12, "isBarred", "(IIII)Z"⟩, prog_14_method_93_code), (⟨RX12, "bar", "(IIII)Z"⟩, prog_14_method_94_code), (⟨RX12, "rowsOf", "(I)I"⟩, prog_14_method_95_code), (⟨RX12, "laid", "(I)Z"⟩, prog_14_method_96_code), (⟨RX12, "unlaid", "()V"⟩, prog_14_method_97_code), (⟨RX12, "worthOf", "(I)I"⟩, prog_14_method_98_code), (⟨RX12, "digit", "(II)I"⟩, prog_14_method_99_code), (⟨RX12, "isLess", "(III)Z"⟩, prog_14_method_100_code), (⟨RX12, "chooses", "(I)Z"⟩, prog_14_method_101_code), (⟨RX12, "best", "(I)I"⟩, prog_14_method_102_code), (⟨RX12, "chosen", "(II)I"⟩, prog_14_method_103_code), (⟨RX12, "judge", "(II)I"⟩, prog_14_method_104_code), (⟨RX12, "debt", "(IIII)I"⟩, prog_14_method_105_code), (⟨RX12, "isOf", "(III)Z"⟩, prog_14_method_106_code), (⟨RX12, "pays", "(III)I"⟩, prog_14_method_107_code)],
  [(⟨RX12, "paid", "(I)I"⟩, prog_14_method_108_code), (⟨RX12, "numberAt", "(I)I"⟩, prog_14_method_109_code), (⟨RX12, "check", "(I)I"⟩, prog_14_method_110_code), (⟨RX12, "look", "(II)I"⟩, prog_14_method_111_code), (⟨RX12, "count", "(I)I"⟩, prog_14_method_112_code), (⟨RJ7, "fill", "([II)V"⟩, prog_17_method_103_code), (⟨RJ9, "max", "(II)I"⟩, prog_15_method_65_code), (⟨RJ9, "min", "(II)I"⟩, prog_15_method_69_code)]]
noncomputable def am_my (m : Nat) : MethodName × ByteArray := (am_myL.getD (m / 16) []).getD (m % 16) (⟨"", "", ""⟩, ⟨#[]⟩)
