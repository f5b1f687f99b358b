def RX0 : String := "TickerHouse$Firms"
def TX0 : u_T := fun k => match k with
  | 0 => ("TickerHouse$Firms", "letters", "[I", true)
  | 1 => ("TickerHouse$Firms", "lastPrice", "[I", true)
  | _ => ("TickerHouse$Firms", "size", "I", false)
def RX1 : String := "TickerHouse$Grammar"
def TX1 : u_T := fun k => match k with
  | 0 => ("TickerHouse$Grammar", "next", "[I", true)
  | 1 => ("TickerHouse$Grammar", "nextSet", "[J", true)
  | 2 => ("TickerHouse$Grammar", "firmsKnown", "I", false)
  | _ => ("TickerHouse$Grammar", "states", "I", false)
def RX2 : String := "TickerHouse$Line"
def TX2 : u_T := fun k => match k with
  | 0 => ("TickerHouse$Line", "power", "I", false)
  | 1 => ("TickerHouse$Line", "loss", "I", false)
  | 2 => ("TickerHouse$Line", "pace", "I", false)
  | 3 => ("TickerHouse$Line", "sender", "LTickerHouse$Machine;", true)
  | 4 => ("TickerHouse$Line", "machines", "[LTickerHouse$Machine;", true)
  | 5 => ("TickerHouse$Line", "size", "I", false)
  | 6 => ("TickerHouse$Line", "pulses", "I", false)
  | 7 => ("TickerHouse$Line", "slipsTold", "I", false)
  | 8 => ("TickerHouse$Line", "slipsHeld", "I", false)
  | 9 => ("TickerHouse$Line", "slipMachine", "[I", true)
  | 10 => ("TickerHouse$Line", "slipPulse", "[I", true)
  | _ => ("TickerHouse$Line", "lost", "[I", true)
def RX3 : String := "TickerHouse$Machine"
def TX3 : u_T := fun k => match k with
  | 0 => ("TickerHouse$Machine", "length", "I", false)
  | 1 => ("TickerHouse$Machine", "dull", "I", false)
  | 2 => ("TickerHouse$Machine", "need", "I", false)
  | 3 => ("TickerHouse$Machine", "living", "Z", false)
  | 4 => ("TickerHouse$Machine", "place", "I", false)
  | 5 => ("TickerHouse$Machine", "wheel", "I", false)
  | 6 => ("TickerHouse$Machine", "steps", "I", false)
  | 7 => ("TickerHouse$Machine", "stopped", "Z", false)
  | 8 => ("TickerHouse$Machine", "missed", "I", false)
  | 9 => ("TickerHouse$Machine", "signs", "[I", true)
  | _ => ("TickerHouse$Machine", "printed", "I", false)
def RX4 : String := "TickerHouse$Plan"
def TX4 : u_T := fun k => match k with
  | 0 => ("TickerHouse$Plan", "finish", "[I", true)
  | 1 => ("TickerHouse$Plan", "latest", "[I", true)
  | 2 => ("TickerHouse$Plan", "duration", "[I", true)
  | 3 => ("TickerHouse$Plan", "order", "[I", true)
  | 4 => ("TickerHouse$Plan", "best", "I", false)
  | 5 => ("TickerHouse$Plan", "done", "I", false)
  | 6 => ("TickerHouse$Plan", "orderSize", "I", false)
  | 7 => ("TickerHouse$Plan", "madeFrom", "I", false)
  | 8 => ("TickerHouse$Plan", "madePace", "I", false)
  | _ => ("TickerHouse$Plan", "madeChanges", "I", false)
def RX5 : String := "TickerHouse$Queue"
def TX5 : u_T := fun k => match k with
  | 0 => ("TickerHouse$Queue", "minute", "[I", true)
  | 1 => ("TickerHouse$Queue", "due", "[I", true)
  | 2 => ("TickerHouse$Queue", "firm", "[I", true)
  | 3 => ("TickerHouse$Queue", "price", "[I", true)
  | 4 => ("TickerHouse$Queue", "hundreds", "[I", true)
  | 5 => ("TickerHouse$Queue", "textPulses", "[I", true)
  | 6 => ("TickerHouse$Queue", "size", "I", false)
  | _ => ("TickerHouse$Queue", "changes", "I", false)
def RX6 : String := "TickerHouse$Reading"
def TX6 : u_T := fun k => match k with
  | 0 => ("TickerHouse$Reading", "firm", "[I", true)
  | 1 => ("TickerHouse$Reading", "price", "[I", true)
  | 2 => ("TickerHouse$Reading", "hundreds", "[I", true)
  | 3 => ("TickerHouse$Reading", "lasts", "[I", true)
  | 4 => ("TickerHouse$Reading", "size", "I", false)
  | 5 => ("TickerHouse$Reading", "faultPlace", "I", false)
  | 6 => ("TickerHouse$Reading", "faultSort", "I", false)
  | _ => ("TickerHouse$Reading", "at", "I", false)
def RX7 : String := "TickerHouse$Repair"
def TX7 : u_T := fun k => match k with
  | 0 => ("TickerHouse$Repair", "found", "LTickerHouse$Row;", true)
  | 1 => ("TickerHouse$Repair", "slips", "I", false)
  | 2 => ("TickerHouse$Repair", "grammar", "LTickerHouse$Grammar;", true)
  | 3 => ("TickerHouse$Repair", "meant", "[I", true)
  | 4 => ("TickerHouse$Repair", "orMeant", "[I", true)
  | 5 => ("TickerHouse$Repair", "endable", "[J", true)
  | 6 => ("TickerHouse$Repair", "now", "[I", true)
  | 7 => ("TickerHouse$Repair", "then", "[I", true)
  | 8 => ("TickerHouse$Repair", "end", "I", false)
  | 9 => ("TickerHouse$Repair", "soughtChanges", "I", false)
  | _ => ("TickerHouse$Repair", "soughtFirms", "I", false)
def RX8 : String := "TickerHouse$Row"
def TX8 : u_T := fun k => match k with
  | 0 => ("TickerHouse$Row", "signs", "[I", true)
  | 1 => ("TickerHouse$Row", "size", "I", false)
  | _ => ("TickerHouse$Row", "changes", "I", false)
def RX9 : String := "TickerHouse$Tape"
def TX9 : u_T := fun k => match k with
  | 0 => ("TickerHouse$Tape", "inOrder", "[I", true)
  | 1 => ("TickerHouse$Tape", "begun", "[I", true)
  | _ => ("TickerHouse$Tape", "ended", "[I", true)
def RX10 : String := "TickerHouse"
def TX10 : u_T := fun k => match k with
  | 0 => ("TickerHouse", "wire", "LTickerHouse$Line;", true)
  | 1 => ("TickerHouse", "trial", "LTickerHouse$Line;", true)
  | 2 => ("TickerHouse", "theRow", "LTickerHouse$Row;", true)
  | 3 => ("TickerHouse", "text", "LTickerHouse$Row;", true)
  | 4 => ("TickerHouse", "firms", "LTickerHouse$Firms;", true)
  | 5 => ("TickerHouse", "reading", "LTickerHouse$Reading;", true)
  | 6 => ("TickerHouse", "queue", "LTickerHouse$Queue;", true)
  | 7 => ("TickerHouse", "plan", "LTickerHouse$Plan;", true)
  | 8 => ("TickerHouse", "tapeRun", "LTickerHouse$Tape;", true)
  | 9 => ("TickerHouse", "repaired", "LTickerHouse$Repair;", true)
  | _ => ("TickerHouse", "shortsOn", "Z", false)
def RX11 : String := "TickerHouseModel"
def TX11 : u_T := fun k => match k with
  | 0 => ("TickerHouseModel", "machines", "I", false)
  | 1 => ("TickerHouseModel", "length", "[I", true)
  | 2 => ("TickerHouseModel", "dull", "[I", true)
  | 3 => ("TickerHouseModel", "need", "[I", true)
  | 4 => ("TickerHouseModel", "isAlive", "[Z", true)
  | 5 => ("TickerHouseModel", "missed", "[I", true)
  | 6 => ("TickerHouseModel", "power", "I", false)
  | 7 => ("TickerHouseModel", "loss", "I", false)
  | 8 => ("TickerHouseModel", "pace", "I", false)
  | 9 => ("TickerHouseModel", "slips", "I", false)
  | 10 => ("TickerHouseModel", "slipMachine", "[I", true)
  | 11 => ("TickerHouseModel", "slipPulse", "[I", true)
  | 12 => ("TickerHouseModel", "pulses", "[I", true)
  | 13 => ("TickerHouseModel", "place", "[I", true)
  | 14 => ("TickerHouseModel", "wheel", "[I", true)
  | 15 => ("TickerHouseModel", "run", "[I", true)
  | 16 => ("TickerHouseModel", "isStopped", "[Z", true)
  | 17 => ("TickerHouseModel", "printed", "[I", true)
  | 18 => ("TickerHouseModel", "ribbon", "[I", true)
  | 19 => ("TickerHouseModel", "rowMany", "I", false)
  | 20 => ("TickerHouseModel", "row", "[I", true)
  | 21 => ("TickerHouseModel", "firms", "I", false)
  | 22 => ("TickerHouseModel", "code", "[I", true)
  | 23 => ("TickerHouseModel", "codeSize", "[I", true)
  | 24 => ("TickerHouseModel", "last", "[I", true)
  | 25 => ("TickerHouseModel", "isShort", "Z", false)
  | 26 => ("TickerHouseModel", "text", "[I", true)
  | 27 => ("TickerHouseModel", "textMany", "I", false)
  | 28 => ("TickerHouseModel", "faultSort", "I", false)
  | 29 => ("TickerHouseModel", "faultAt", "I", false)
  | 30 => ("TickerHouseModel", "quotes", "I", false)
  | 31 => ("TickerHouseModel", "quoteFirm", "[I", true)
  | 32 => ("TickerHouseModel", "quotePrice", "[I", true)
  | 33 => ("TickerHouseModel", "quoteHundreds", "[I", true)
  | 34 => ("TickerHouseModel", "lastThen", "[I", true)
  | 35 => ("TickerHouseModel", "at", "I", false)
  | 36 => ("TickerHouseModel", "queue", "I", false)
  | 37 => ("TickerHouseModel", "comes", "[I", true)
  | 38 => ("TickerHouseModel", "dues", "[I", true)
  | 39 => ("TickerHouseModel", "firmOfQueue", "[I", true)
  | 40 => ("TickerHouseModel", "priceOf", "[I", true)
  | 41 => ("TickerHouseModel", "hundredsOf", "[I", true)
  | 42 => ("TickerHouseModel", "done", "[I", true)
  | 43 => ("TickerHouseModel", "takes", "[I", true)
  | 44 => ("TickerHouseModel", "begins", "[I", true)
  | 45 => ("TickerHouseModel", "turn", "[I", true)
  | 46 => ("TickerHouseModel", "edges", "I", false)
  | 47 => ("TickerHouseModel", "edgeSign", "[I", true)
  | 48 => ("TickerHouseModel", "edgeTo", "[I", true)
  | 49 => ("TickerHouseModel", "firstEdge", "[I", true)
  | 50 => ("TickerHouseModel", "fewest", "[I", true)
  | 51 => ("TickerHouseModel", "isHere", "[Z", true)
  | 52 => ("TickerHouseModel", "isThen", "[Z", true)
  | 53 => ("TickerHouseModel", "here", "[I", true)
  | 54 => ("TickerHouseModel", "then", "[I", true)
  | 55 => ("TickerHouseModel", "hereMany", "I", false)
  | 56 => ("TickerHouseModel", "thenMany", "I", false)
  | 57 => ("TickerHouseModel", "repaired", "[I", true)
  | 58 => ("TickerHouseModel", "repairedMany", "I", false)
  | 59 => ("TickerHouseModel", "isFresh", "Z", false)
  | _ => ("TickerHouseModel", "slipsThen", "I", false)
def tyX0 : Nat → FieldType := fun k => match k with
  | 0 => .array .int
  | 1 => .array .int
  | _ => .int
theorem nmX0 : ∀ a, a < 3 → ∀ b, b < 3 → a ≠ b → (TX0 a).2.1 ≠ (TX0 b).2.1 := by decide +kernel
theorem tyX0_ok : ∀ k, k < 3 → parseFieldDescriptor (TX0 k).2.2.1 = some (tyX0 k) := by decide +kernel
def tyX1 : Nat → FieldType := fun k => match k with
  | 0 => .array .int
  | 1 => .array .long
  | 2 => .int
  | _ => .int
theorem nmX1 : ∀ a, a < 4 → ∀ b, b < 4 → a ≠ b → (TX1 a).2.1 ≠ (TX1 b).2.1 := by decide +kernel
theorem tyX1_ok : ∀ k, k < 4 → parseFieldDescriptor (TX1 k).2.2.1 = some (tyX1 k) := by decide +kernel
def tyX2 : Nat → FieldType := fun k => match k with
  | 0 => .int
  | 1 => .int
  | 2 => .int
  | 3 => .object "TickerHouse$Machine"
  | 4 => .array (.object "TickerHouse$Machine")
  | 5 => .int
  | 6 => .int
  | 7 => .int
  | 8 => .int
  | 9 => .array .int
  | 10 => .array .int
  | _ => .array .int
theorem nmX2 : ∀ a, a < 12 → ∀ b, b < 12 → a ≠ b → (TX2 a).2.1 ≠ (TX2 b).2.1 := by decide +kernel
theorem tyX2_ok : ∀ k, k < 12 → parseFieldDescriptor (TX2 k).2.2.1 = some (tyX2 k) := by decide +kernel
def tyX3 : Nat → FieldType := fun k => match k with
  | 0 => .int
  | 1 => .int
  | 2 => .int
  | 3 => .boolean
  | 4 => .int
  | 5 => .int
  | 6 => .int
  | 7 => .boolean
  | 8 => .int
  | 9 => .array .int
  | _ => .int
theorem nmX3 : ∀ a, a < 11 → ∀ b, b < 11 → a ≠ b → (TX3 a).2.1 ≠ (TX3 b).2.1 := by decide +kernel
theorem tyX3_ok : ∀ k, k < 11 → parseFieldDescriptor (TX3 k).2.2.1 = some (tyX3 k) := by decide +kernel
def tyX4 : Nat → FieldType := fun k => match k with
  | 0 => .array .int
  | 1 => .array .int
  | 2 => .array .int
  | 3 => .array .int
  | 4 => .int
  | 5 => .int
  | 6 => .int
  | 7 => .int
  | 8 => .int
  | _ => .int
theorem nmX4 : ∀ a, a < 10 → ∀ b, b < 10 → a ≠ b → (TX4 a).2.1 ≠ (TX4 b).2.1 := by decide +kernel
theorem tyX4_ok : ∀ k, k < 10 → parseFieldDescriptor (TX4 k).2.2.1 = some (tyX4 k) := by decide +kernel
def tyX5 : Nat → FieldType := fun k => match k with
  | 0 => .array .int
  | 1 => .array .int
  | 2 => .array .int
  | 3 => .array .int
  | 4 => .array .int
  | 5 => .array .int
  | 6 => .int
  | _ => .int
theorem nmX5 : ∀ a, a < 8 → ∀ b, b < 8 → a ≠ b → (TX5 a).2.1 ≠ (TX5 b).2.1 := by decide +kernel
theorem tyX5_ok : ∀ k, k < 8 → parseFieldDescriptor (TX5 k).2.2.1 = some (tyX5 k) := by decide +kernel
def tyX6 : Nat → FieldType := fun k => match k with
  | 0 => .array .int
  | 1 => .array .int
  | 2 => .array .int
  | 3 => .array .int
  | 4 => .int
  | 5 => .int
  | 6 => .int
  | _ => .int
theorem nmX6 : ∀ a, a < 8 → ∀ b, b < 8 → a ≠ b → (TX6 a).2.1 ≠ (TX6 b).2.1 := by decide +kernel
theorem tyX6_ok : ∀ k, k < 8 → parseFieldDescriptor (TX6 k).2.2.1 = some (tyX6 k) := by decide +kernel
def tyX7 : Nat → FieldType := fun k => match k with
  | 0 => .object "TickerHouse$Row"
  | 1 => .int
  | 2 => .object "TickerHouse$Grammar"
  | 3 => .array .int
  | 4 => .array .int
  | 5 => .array .long
  | 6 => .array .int
  | 7 => .array .int
  | 8 => .int
  | 9 => .int
  | _ => .int
theorem nmX7 : ∀ a, a < 11 → ∀ b, b < 11 → a ≠ b → (TX7 a).2.1 ≠ (TX7 b).2.1 := by decide +kernel
theorem tyX7_ok : ∀ k, k < 11 → parseFieldDescriptor (TX7 k).2.2.1 = some (tyX7 k) := by decide +kernel
def tyX8 : Nat → FieldType := fun k => match k with
  | 0 => .array .int
  | 1 => .int
  | _ => .int
theorem nmX8 : ∀ a, a < 3 → ∀ b, b < 3 → a ≠ b → (TX8 a).2.1 ≠ (TX8 b).2.1 := by decide +kernel
theorem tyX8_ok : ∀ k, k < 3 → parseFieldDescriptor (TX8 k).2.2.1 = some (tyX8 k) := by decide +kernel
def tyX9 : Nat → FieldType := fun k => match k with
  | 0 => .array .int
  | 1 => .array .int
  | _ => .array .int
theorem nmX9 : ∀ a, a < 3 → ∀ b, b < 3 → a ≠ b → (TX9 a).2.1 ≠ (TX9 b).2.1 := by decide +kernel
theorem tyX9_ok : ∀ k, k < 3 → parseFieldDescriptor (TX9 k).2.2.1 = some (tyX9 k) := by decide +kernel
def tyX10 : Nat → FieldType := fun k => match k with
  | 0 => .object "TickerHouse$Line"
  | 1 => .object "TickerHouse$Line"
  | 2 => .object "TickerHouse$Row"
  | 3 => .object "TickerHouse$Row"
  | 4 => .object "TickerHouse$Firms"
  | 5 => .object "TickerHouse$Reading"
  | 6 => .object "TickerHouse$Queue"
  | 7 => .object "TickerHouse$Plan"
  | 8 => .object "TickerHouse$Tape"
  | 9 => .object "TickerHouse$Repair"
  | _ => .boolean
theorem nmX10 : ∀ a, a < 11 → ∀ b, b < 11 → a ≠ b → (TX10 a).2.1 ≠ (TX10 b).2.1 := by decide +kernel
theorem tyX10_ok : ∀ k, k < 11 → parseFieldDescriptor (TX10 k).2.2.1 = some (tyX10 k) := by decide +kernel
def tyX11 : Nat → FieldType := fun k => match k with
  | 0 => .int
  | 1 => .array .int
  | 2 => .array .int
  | 3 => .array .int
  | 4 => .array .boolean
  | 5 => .array .int
  | 6 => .int
  | 7 => .int
  | 8 => .int
  | 9 => .int
  | 10 => .array .int
  | 11 => .array .int
  | 12 => .array .int
  | 13 => .array .int
  | 14 => .array .int
  | 15 => .array .int
  | 16 => .array .boolean
  | 17 => .array .int
  | 18 => .array .int
  | 19 => .int
  | 20 => .array .int
  | 21 => .int
  | 22 => .array .int
  | 23 => .array .int
  | 24 => .array .int
  | 25 => .boolean
  | 26 => .array .int
  | 27 => .int
  | 28 => .int
  | 29 => .int
  | 30 => .int
  | 31 => .array .int
  | 32 => .array .int
  | 33 => .array .int
  | 34 => .array .int
  | 35 => .int
  | 36 => .int
  | 37 => .array .int
  | 38 => .array .int
  | 39 => .array .int
  | 40 => .array .int
  | 41 => .array .int
  | 42 => .array .int
  | 43 => .array .int
  | 44 => .array .int
  | 45 => .array .int
  | 46 => .int
  | 47 => .array .int
  | 48 => .array .int
  | 49 => .array .int
  | 50 => .array .int
  | 51 => .array .boolean
  | 52 => .array .boolean
  | 53 => .array .int
  | 54 => .array .int
  | 55 => .int
  | 56 => .int
  | 57 => .array .int
  | 58 => .int
  | 59 => .boolean
  | _ => .int
theorem nmX11 : ∀ a, a < 61 → ∀ b, b < 61 → a ≠ b → (TX11 a).2.1 ≠ (TX11 b).2.1 := by decide +kernel
theorem tyX11_ok : ∀ k, k < 61 → parseFieldDescriptor (TX11 k).2.2.1 = some (tyX11 k) := by decide +kernel
abbrev vwCl : List vw_C := [(RX0, TX0, 3), (RX1, TX1, 4), (RX2, TX2, 12), (RX3, TX3, 11), (RX4, TX4, 10), (RX5, TX5, 8), (RX6, TX6, 8), (RX7, TX7, 11), (RX8, TX8, 3), (RX9, TX9, 3), (RX10, TX10, 11), (RX11, TX11, 61)]
