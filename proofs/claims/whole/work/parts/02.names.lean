def RX0 : String := "GuardHouse$Compiler"
def TX0 : u_T := fun k => match k with
  | 0 => ("GuardHouse$Compiler", "tokens", "LGuardHouse$Tokens;", true)
  | 1 => ("GuardHouse$Compiler", "draft", "LGuardHouse$Policy;", false)
  | 2 => ("GuardHouse$Compiler", "names", "[J", true)
  | 3 => ("GuardHouse$Compiler", "meanings", "[I", true)
  | 4 => ("GuardHouse$Compiler", "nameCount", "I", false)
  | 5 => ("GuardHouse$Compiler", "rulePlaces", "[I", true)
  | 6 => ("GuardHouse$Compiler", "movePlaces", "[I", true)
  | 7 => ("GuardHouse$Compiler", "waiting", "[I", true)
  | 8 => ("GuardHouse$Compiler", "waitingCount", "I", false)
  | _ => ("GuardHouse$Compiler", "depth", "I", false)
def tyX0 : Nat → FieldType := fun k => match k with
  | 0 => .object "GuardHouse$Tokens"
  | 1 => .object "GuardHouse$Policy"
  | 2 => .array .long
  | 3 => .array .int
  | 4 => .int
  | 5 => .array .int
  | 6 => .array .int
  | 7 => .array .int
  | 8 => .int
  | _ => .int
theorem nmX0 : ∀ a, a < 10 → ∀ b, b < 10 → a ≠ b → (TX0 a).2.1 ≠ (TX0 b).2.1 := by decide +kernel
theorem tyX0_ok : ∀ k, k < 10 → parseFieldDescriptor (TX0 k).2.2.1 = some (tyX0 k) := by decide +kernel
def RX1 : String := "GuardHouse$EventReader"
def TX1 : u_T := fun k => match k with
  | 0 => ("GuardHouse$EventReader", "text", "LGuardHouse$Text;", true)
  | 1 => ("GuardHouse$EventReader", "place", "I", false)
  | 2 => ("GuardHouse$EventReader", "next", "I", false)
  | 3 => ("GuardHouse$EventReader", "kind", "I", false)
  | 4 => ("GuardHouse$EventReader", "number", "I", false)
  | 5 => ("GuardHouse$EventReader", "word", "J", false)
  | 6 => ("GuardHouse$EventReader", "process", "I", false)
  | 7 => ("GuardHouse$EventReader", "act", "I", false)
  | 8 => ("GuardHouse$EventReader", "first", "I", false)
  | _ => ("GuardHouse$EventReader", "second", "I", false)
def tyX1 : Nat → FieldType := fun k => match k with
  | 0 => .object "GuardHouse$Text"
  | 1 => .int
  | 2 => .int
  | 3 => .int
  | 4 => .int
  | 5 => .long
  | 6 => .int
  | 7 => .int
  | 8 => .int
  | _ => .int
theorem nmX1 : ∀ a, a < 10 → ∀ b, b < 10 → a ≠ b → (TX1 a).2.1 ≠ (TX1 b).2.1 := by decide +kernel
theorem tyX1_ok : ∀ k, k < 10 → parseFieldDescriptor (TX1 k).2.2.1 = some (tyX1 k) := by decide +kernel
def RX2 : String := "GuardHouse$Guard"
def TX2 : u_T := fun k => match k with
  | 0 => ("GuardHouse$Guard", "policy", "LGuardHouse$Policy;", false)
  | 1 => ("GuardHouse$Guard", "loaded", "Z", false)
  | 2 => ("GuardHouse$Guard", "identified", "[I", true)
  | 3 => ("GuardHouse$Guard", "identifierCount", "I", false)
  | 4 => ("GuardHouse$Guard", "cacheSources", "[I", true)
  | 5 => ("GuardHouse$Guard", "cacheTargets", "[I", true)
  | 6 => ("GuardHouse$Guard", "cacheClasses", "[I", true)
  | 7 => ("GuardHouse$Guard", "cacheVectors", "[I", true)
  | 8 => ("GuardHouse$Guard", "cacheSize", "I", false)
  | 9 => ("GuardHouse$Guard", "records", "[I", true)
  | 10 => ("GuardHouse$Guard", "recordCount", "I", false)
  | 11 => ("GuardHouse$Guard", "questions", "I", false)
  | _ => ("GuardHouse$Guard", "hits", "I", false)
def tyX2 : Nat → FieldType := fun k => match k with
  | 0 => .object "GuardHouse$Policy"
  | 1 => .boolean
  | 2 => .array .int
  | 3 => .int
  | 4 => .array .int
  | 5 => .array .int
  | 6 => .array .int
  | 7 => .array .int
  | 8 => .int
  | 9 => .array .int
  | 10 => .int
  | 11 => .int
  | _ => .int
theorem nmX2 : ∀ a, a < 13 → ∀ b, b < 13 → a ≠ b → (TX2 a).2.1 ≠ (TX2 b).2.1 := by decide +kernel
theorem tyX2_ok : ∀ k, k < 13 → parseFieldDescriptor (TX2 k).2.2.1 = some (tyX2 k) := by decide +kernel
def RX3 : String := "GuardHouse$HandleActs"
def TX3 : u_T := fun k => match k with
  | 0 => ("GuardHouse$HandleActs", "guard", "LGuardHouse$Guard;", true)
  | 1 => ("GuardHouse$HandleActs", "journal", "LGuardHouse$Journal;", true)
  | 2 => ("GuardHouse$HandleActs", "tree", "LGuardHouse$Tree;", true)
  | _ => ("GuardHouse$HandleActs", "holdings", "LGuardHouse$Holdings;", true)
def tyX3 : Nat → FieldType := fun k => match k with
  | 0 => .object "GuardHouse$Guard"
  | 1 => .object "GuardHouse$Journal"
  | 2 => .object "GuardHouse$Tree"
  | _ => .object "GuardHouse$Holdings"
theorem nmX3 : ∀ a, a < 4 → ∀ b, b < 4 → a ≠ b → (TX3 a).2.1 ≠ (TX3 b).2.1 := by decide +kernel
theorem tyX3_ok : ∀ k, k < 4 → parseFieldDescriptor (TX3 k).2.2.1 = some (tyX3 k) := by decide +kernel
def RX4 : String := "GuardHouse$Holdings"
def TX4 : u_T := fun k => match k with
  | 0 => ("GuardHouse$Holdings", "tree", "LGuardHouse$Tree;", true)
  | 1 => ("GuardHouse$Holdings", "processes", "[I", true)
  | 2 => ("GuardHouse$Holdings", "handles", "[I", true)
  | 3 => ("GuardHouse$Holdings", "tellers", "[I", true)
  | 4 => ("GuardHouse$Holdings", "nodes", "[I", true)
  | 5 => ("GuardHouse$Holdings", "pipes", "[I", true)
  | 6 => ("GuardHouse$Holdings", "modes", "[I", true)
  | 7 => ("GuardHouse$Holdings", "places", "[I", true)
  | 8 => ("GuardHouse$Holdings", "openers", "[I", true)
  | 9 => ("GuardHouse$Holdings", "pipeContexts", "[I", true)
  | 10 => ("GuardHouse$Holdings", "pipeSizes", "[I", true)
  | _ => ("GuardHouse$Holdings", "pipeBytes", "[I", true)
def tyX4 : Nat → FieldType := fun k => match k with
  | 0 => .object "GuardHouse$Tree"
  | 1 => .array .int
  | 2 => .array .int
  | 3 => .array .int
  | 4 => .array .int
  | 5 => .array .int
  | 6 => .array .int
  | 7 => .array .int
  | 8 => .array .int
  | 9 => .array .int
  | 10 => .array .int
  | _ => .array .int
theorem nmX4 : ∀ a, a < 12 → ∀ b, b < 12 → a ≠ b → (TX4 a).2.1 ≠ (TX4 b).2.1 := by decide +kernel
theorem tyX4_ok : ∀ k, k < 12 → parseFieldDescriptor (TX4 k).2.2.1 = some (tyX4 k) := by decide +kernel
def RX5 : String := "GuardHouse$Journal"
def TX5 : u_T := fun k => match k with
  | 0 => ("GuardHouse$Journal", "now", "LGuardHouse$Tree;", true)
  | 1 => ("GuardHouse$Journal", "sure", "LGuardHouse$Tree;", true)
  | 2 => ("GuardHouse$Journal", "deeds", "[I", true)
  | _ => ("GuardHouse$Journal", "deedCount", "I", false)
def tyX5 : Nat → FieldType := fun k => match k with
  | 0 => .object "GuardHouse$Tree"
  | 1 => .object "GuardHouse$Tree"
  | 2 => .array .int
  | _ => .int
theorem nmX5 : ∀ a, a < 4 → ∀ b, b < 4 → a ≠ b → (TX5 a).2.1 ≠ (TX5 b).2.1 := by decide +kernel
theorem tyX5_ok : ∀ k, k < 4 → parseFieldDescriptor (TX5 k).2.2.1 = some (tyX5 k) := by decide +kernel
def RX6 : String := "GuardHouse$PathActs"
def TX6 : u_T := fun k => match k with
  | 0 => ("GuardHouse$PathActs", "guard", "LGuardHouse$Guard;", true)
  | 1 => ("GuardHouse$PathActs", "journal", "LGuardHouse$Journal;", true)
  | 2 => ("GuardHouse$PathActs", "tree", "LGuardHouse$Tree;", true)
  | 3 => ("GuardHouse$PathActs", "holdings", "LGuardHouse$Holdings;", true)
  | 4 => ("GuardHouse$PathActs", "lastName", "I", false)
  | _ => ("GuardHouse$PathActs", "walkedNodes", "I", false)
def tyX6 : Nat → FieldType := fun k => match k with
  | 0 => .object "GuardHouse$Guard"
  | 1 => .object "GuardHouse$Journal"
  | 2 => .object "GuardHouse$Tree"
  | 3 => .object "GuardHouse$Holdings"
  | 4 => .int
  | _ => .int
theorem nmX6 : ∀ a, a < 6 → ∀ b, b < 6 → a ≠ b → (TX6 a).2.1 ≠ (TX6 b).2.1 := by decide +kernel
theorem tyX6_ok : ∀ k, k < 6 → parseFieldDescriptor (TX6 k).2.2.1 = some (tyX6 k) := by decide +kernel
def RX7 : String := "GuardHouse$Policy"
def TX7 : u_T := fun k => match k with
  | 0 => ("GuardHouse$Policy", "counts", "[I", true)
  | 1 => ("GuardHouse$Policy", "attributeTypes", "[I", true)
  | 2 => ("GuardHouse$Policy", "roleTypes", "[I", true)
  | 3 => ("GuardHouse$Policy", "userRoles", "[I", true)
  | 4 => ("GuardHouse$Policy", "ruleKinds", "[I", true)
  | 5 => ("GuardHouse$Policy", "ruleSources", "[I", true)
  | 6 => ("GuardHouse$Policy", "ruleTargets", "[I", true)
  | 7 => ("GuardHouse$Policy", "ruleClasses", "[I", true)
  | 8 => ("GuardHouse$Policy", "rulePermissions", "[I", true)
  | 9 => ("GuardHouse$Policy", "moveSources", "[I", true)
  | 10 => ("GuardHouse$Policy", "moveTargets", "[I", true)
  | 11 => ("GuardHouse$Policy", "moveClasses", "[I", true)
  | 12 => ("GuardHouse$Policy", "moveTypes", "[I", true)
  | 13 => ("GuardHouse$Policy", "limitClasses", "[I", true)
  | 14 => ("GuardHouse$Policy", "limitPermissions", "[I", true)
  | 15 => ("GuardHouse$Policy", "limitStarts", "[I", true)
  | 16 => ("GuardHouse$Policy", "codes", "[I", true)
  | 17 => ("GuardHouse$Policy", "codeTypes", "[I", true)
  | _ => ("GuardHouse$Policy", "codeCount", "I", false)
def tyX7 : Nat → FieldType := fun k => match k with
  | 0 => .array .int
  | 1 => .array .int
  | 2 => .array .int
  | 3 => .array .int
  | 4 => .array .int
  | 5 => .array .int
  | 6 => .array .int
  | 7 => .array .int
  | 8 => .array .int
  | 9 => .array .int
  | 10 => .array .int
  | 11 => .array .int
  | 12 => .array .int
  | 13 => .array .int
  | 14 => .array .int
  | 15 => .array .int
  | 16 => .array .int
  | 17 => .array .int
  | _ => .int
theorem nmX7 : ∀ a, a < 19 → ∀ b, b < 19 → a ≠ b → (TX7 a).2.1 ≠ (TX7 b).2.1 := by decide +kernel
theorem tyX7_ok : ∀ k, k < 19 → parseFieldDescriptor (TX7 k).2.2.1 = some (tyX7 k) := by decide +kernel
def RX8 : String := "GuardHouse$Text"
def TX8 : u_T := fun k => match k with
  | 0 => ("GuardHouse$Text", "signs", "[B", true)
  | _ => ("GuardHouse$Text", "size", "I", false)
def tyX8 : Nat → FieldType := fun k => match k with
  | 0 => .array .byte
  | _ => .int
theorem nmX8 : ∀ a, a < 2 → ∀ b, b < 2 → a ≠ b → (TX8 a).2.1 ≠ (TX8 b).2.1 := by decide +kernel
theorem tyX8_ok : ∀ k, k < 2 → parseFieldDescriptor (TX8 k).2.2.1 = some (tyX8 k) := by decide +kernel
def RX9 : String := "GuardHouse$Tokens"
def TX9 : u_T := fun k => match k with
  | 0 => ("GuardHouse$Tokens", "text", "LGuardHouse$Text;", true)
  | 1 => ("GuardHouse$Tokens", "place", "I", false)
  | 2 => ("GuardHouse$Tokens", "next", "I", false)
  | 3 => ("GuardHouse$Tokens", "kind", "I", false)
  | _ => ("GuardHouse$Tokens", "name", "J", false)
def tyX9 : Nat → FieldType := fun k => match k with
  | 0 => .object "GuardHouse$Text"
  | 1 => .int
  | 2 => .int
  | 3 => .int
  | _ => .long
theorem nmX9 : ∀ a, a < 5 → ∀ b, b < 5 → a ≠ b → (TX9 a).2.1 ≠ (TX9 b).2.1 := by decide +kernel
theorem tyX9_ok : ∀ k, k < 5 → parseFieldDescriptor (TX9 k).2.2.1 = some (tyX9 k) := by decide +kernel
def RX10 : String := "GuardHouse$Tree"
def TX10 : u_T := fun k => match k with
  | 0 => ("GuardHouse$Tree", "kinds", "[I", true)
  | 1 => ("GuardHouse$Tree", "contexts", "[I", true)
  | 2 => ("GuardHouse$Tree", "sizes", "[I", true)
  | _ => ("GuardHouse$Tree", "contents", "[I", true)
def tyX10 : Nat → FieldType := fun k => match k with
  | 0 => .array .int
  | 1 => .array .int
  | 2 => .array .int
  | _ => .array .int
theorem nmX10 : ∀ a, a < 4 → ∀ b, b < 4 → a ≠ b → (TX10 a).2.1 ≠ (TX10 b).2.1 := by decide +kernel
theorem tyX10_ok : ∀ k, k < 4 → parseFieldDescriptor (TX10 k).2.2.1 = some (tyX10 k) := by decide +kernel
def RX11 : String := "GuardHouse"
def TX11 : u_T := fun k => match k with
  | 0 => ("GuardHouse", "text", "LGuardHouse$Text;", true)
  | 1 => ("GuardHouse", "compiler", "LGuardHouse$Compiler;", true)
  | 2 => ("GuardHouse", "reader", "LGuardHouse$EventReader;", true)
  | 3 => ("GuardHouse", "guard", "LGuardHouse$Guard;", true)
  | 4 => ("GuardHouse", "journal", "LGuardHouse$Journal;", true)
  | 5 => ("GuardHouse", "holdings", "LGuardHouse$Holdings;", true)
  | 6 => ("GuardHouse", "pathActs", "LGuardHouse$PathActs;", true)
  | 7 => ("GuardHouse", "handleActs", "LGuardHouse$HandleActs;", true)
  | 8 => ("GuardHouse", "results", "[I", true)
  | _ => ("GuardHouse", "resultCount", "I", false)
def tyX11 : Nat → FieldType := fun k => match k with
  | 0 => .object "GuardHouse$Text"
  | 1 => .object "GuardHouse$Compiler"
  | 2 => .object "GuardHouse$EventReader"
  | 3 => .object "GuardHouse$Guard"
  | 4 => .object "GuardHouse$Journal"
  | 5 => .object "GuardHouse$Holdings"
  | 6 => .object "GuardHouse$PathActs"
  | 7 => .object "GuardHouse$HandleActs"
  | 8 => .array .int
  | _ => .int
theorem nmX11 : ∀ a, a < 10 → ∀ b, b < 10 → a ≠ b → (TX11 a).2.1 ≠ (TX11 b).2.1 := by decide +kernel
theorem tyX11_ok : ∀ k, k < 10 → parseFieldDescriptor (TX11 k).2.2.1 = some (tyX11 k) := by decide +kernel
def RX12 : String := "GuardHouseModel"
def TX12 : u_T := fun k => match k with
  | 0 => ("GuardHouseModel", "thrown", "I", false)
  | 1 => ("GuardHouseModel", "signs", "[I", true)
  | 2 => ("GuardHouseModel", "size", "I", false)
  | 3 => ("GuardHouseModel", "words", "[J", true)
  | 4 => ("GuardHouseModel", "permissionWords", "[I", true)
  | 5 => ("GuardHouseModel", "hasPolicy", "Z", false)
  | 6 => ("GuardHouseModel", "kept", "[I", true)
  | 7 => ("GuardHouseModel", "keptSize", "I", false)
  | 8 => ("GuardHouseModel", "text", "[I", true)
  | 9 => ("GuardHouseModel", "textSize", "I", false)
  | 10 => ("GuardHouseModel", "names", "I", false)
  | 11 => ("GuardHouseModel", "nameSigns", "[I", true)
  | 12 => ("GuardHouseModel", "nameKinds", "[I", true)
  | 13 => ("GuardHouseModel", "nameNumbers", "[I", true)
  | 14 => ("GuardHouseModel", "types", "I", false)
  | 15 => ("GuardHouseModel", "attributes", "I", false)
  | 16 => ("GuardHouseModel", "roles", "I", false)
  | 17 => ("GuardHouseModel", "users", "I", false)
  | 18 => ("GuardHouseModel", "attributeTypes", "[I", true)
  | 19 => ("GuardHouseModel", "roleTypes", "[I", true)
  | 20 => ("GuardHouseModel", "userRoles", "[I", true)
  | 21 => ("GuardHouseModel", "rules", "I", false)
  | 22 => ("GuardHouseModel", "ruleKinds", "[I", true)
  | 23 => ("GuardHouseModel", "sources", "[I", true)
  | 24 => ("GuardHouseModel", "targets", "[I", true)
  | 25 => ("GuardHouseModel", "ruleClasses", "[I", true)
  | 26 => ("GuardHouseModel", "rulePermissions", "[I", true)
  | 27 => ("GuardHouseModel", "rulePlaces", "[I", true)
  | 28 => ("GuardHouseModel", "moves", "I", false)
  | 29 => ("GuardHouseModel", "moveSources", "[I", true)
  | 30 => ("GuardHouseModel", "moveTargets", "[I", true)
  | 31 => ("GuardHouseModel", "moveClasses", "[I", true)
  | 32 => ("GuardHouseModel", "moveTypes", "[I", true)
  | 33 => ("GuardHouseModel", "movePlaces", "[I", true)
  | 34 => ("GuardHouseModel", "limits", "I", false)
  | 35 => ("GuardHouseModel", "limitClasses", "[I", true)
  | 36 => ("GuardHouseModel", "limitPermissions", "[I", true)
  | 37 => ("GuardHouseModel", "limitFrom", "[I", true)
  | 38 => ("GuardHouseModel", "codes", "I", false)
  | 39 => ("GuardHouseModel", "tests", "[I", true)
  | 40 => ("GuardHouseModel", "meant", "[I", true)
  | 41 => ("GuardHouseModel", "stack", "[Z", true)
  | 42 => ("GuardHouseModel", "token", "I", false)
  | 43 => ("GuardHouseModel", "tokenAt", "I", false)
  | 44 => ("GuardHouseModel", "tokenEnd", "I", false)
  | 45 => ("GuardHouseModel", "tokenWord", "I", false)
  | 46 => ("GuardHouseModel", "fault", "I", false)
  | 47 => ("GuardHouseModel", "waiting", "I", false)
  | 48 => ("GuardHouseModel", "waits", "[I", true)
  | 49 => ("GuardHouseModel", "deep", "I", false)
  | 50 => ("GuardHouseModel", "nodes", "[I", true)
  | 51 => ("GuardHouseModel", "nodeContexts", "[I", true)
  | 52 => ("GuardHouseModel", "sizes", "[I", true)
  | 53 => ("GuardHouseModel", "bytes", "[I", true)
  | 54 => ("GuardHouseModel", "entryNames", "[I", true)
  | 55 => ("GuardHouseModel", "entryNodes", "[I", true)
  | 56 => ("GuardHouseModel", "sure", "[I", true)
  | 57 => ("GuardHouseModel", "deeds", "I", false)
  | 58 => ("GuardHouseModel", "deed", "[I", true)
  | 59 => ("GuardHouseModel", "processes", "[I", true)
  | 60 => ("GuardHouseModel", "handles", "[I", true)
  | 61 => ("GuardHouseModel", "openings", "[I", true)
  | 62 => ("GuardHouseModel", "modes", "[I", true)
  | 63 => ("GuardHouseModel", "places", "[I", true)
  | 64 => ("GuardHouseModel", "openContexts", "[I", true)
  | 65 => ("GuardHouseModel", "pipes", "[I", true)
  | 66 => ("GuardHouseModel", "pipeSizes", "[I", true)
  | 67 => ("GuardHouseModel", "pipeBytes", "[I", true)
  | 68 => ("GuardHouseModel", "eventWords", "[J", true)
  | 69 => ("GuardHouseModel", "events", "I", false)
  | 70 => ("GuardHouseModel", "eventKinds", "[I", true)
  | 71 => ("GuardHouseModel", "eventProcesses", "[I", true)
  | 72 => ("GuardHouseModel", "eventFirst", "[I", true)
  | 73 => ("GuardHouseModel", "eventSecond", "[I", true)
  | 74 => ("GuardHouseModel", "eventWord", "I", false)
  | 75 => ("GuardHouseModel", "eventNumber", "I", false)
  | 76 => ("GuardHouseModel", "eventAt", "I", false)
  | 77 => ("GuardHouseModel", "results", "I", false)
  | 78 => ("GuardHouseModel", "told", "[I", true)
  | 79 => ("GuardHouseModel", "identifiers", "I", false)
  | 80 => ("GuardHouseModel", "identified", "[I", true)
  | 81 => ("GuardHouseModel", "result", "I", false)
  | 82 => ("GuardHouseModel", "walked", "I", false)
  | 83 => ("GuardHouseModel", "lastName", "I", false)
  | 84 => ("GuardHouseModel", "questions", "I", false)
  | 85 => ("GuardHouseModel", "hits", "I", false)
  | 86 => ("GuardHouseModel", "cached", "I", false)
  | 87 => ("GuardHouseModel", "cacheSources", "[I", true)
  | 88 => ("GuardHouseModel", "cacheTargets", "[I", true)
  | 89 => ("GuardHouseModel", "cacheClasses", "[I", true)
  | 90 => ("GuardHouseModel", "cacheVectors", "[I", true)
  | 91 => ("GuardHouseModel", "records", "I", false)
  | 92 => ("GuardHouseModel", "recordGranted", "[I", true)
  | 93 => ("GuardHouseModel", "recordSources", "[I", true)
  | 94 => ("GuardHouseModel", "recordTargets", "[I", true)
  | 95 => ("GuardHouseModel", "recordClasses", "[I", true)
  | _ => ("GuardHouseModel", "recordPermissions", "[I", true)
def tyX12 : Nat → FieldType := fun k => match k with
  | 0 => .int
  | 1 => .array .int
  | 2 => .int
  | 3 => .array .long
  | 4 => .array .int
  | 5 => .boolean
  | 6 => .array .int
  | 7 => .int
  | 8 => .array .int
  | 9 => .int
  | 10 => .int
  | 11 => .array .int
  | 12 => .array .int
  | 13 => .array .int
  | 14 => .int
  | 15 => .int
  | 16 => .int
  | 17 => .int
  | 18 => .array .int
  | 19 => .array .int
  | 20 => .array .int
  | 21 => .int
  | 22 => .array .int
  | 23 => .array .int
  | 24 => .array .int
  | 25 => .array .int
  | 26 => .array .int
  | 27 => .array .int
  | 28 => .int
  | 29 => .array .int
  | 30 => .array .int
  | 31 => .array .int
  | 32 => .array .int
  | 33 => .array .int
  | 34 => .int
  | 35 => .array .int
  | 36 => .array .int
  | 37 => .array .int
  | 38 => .int
  | 39 => .array .int
  | 40 => .array .int
  | 41 => .array .boolean
  | 42 => .int
  | 43 => .int
  | 44 => .int
  | 45 => .int
  | 46 => .int
  | 47 => .int
  | 48 => .array .int
  | 49 => .int
  | 50 => .array .int
  | 51 => .array .int
  | 52 => .array .int
  | 53 => .array .int
  | 54 => .array .int
  | 55 => .array .int
  | 56 => .array .int
  | 57 => .int
  | 58 => .array .int
  | 59 => .array .int
  | 60 => .array .int
  | 61 => .array .int
  | 62 => .array .int
  | 63 => .array .int
  | 64 => .array .int
  | 65 => .array .int
  | 66 => .array .int
  | 67 => .array .int
  | 68 => .array .long
  | 69 => .int
  | 70 => .array .int
  | 71 => .array .int
  | 72 => .array .int
  | 73 => .array .int
  | 74 => .int
  | 75 => .int
  | 76 => .int
  | 77 => .int
  | 78 => .array .int
  | 79 => .int
  | 80 => .array .int
  | 81 => .int
  | 82 => .int
  | 83 => .int
  | 84 => .int
  | 85 => .int
  | 86 => .int
  | 87 => .array .int
  | 88 => .array .int
  | 89 => .array .int
  | 90 => .array .int
  | 91 => .int
  | 92 => .array .int
  | 93 => .array .int
  | 94 => .array .int
  | 95 => .array .int
  | _ => .array .int
theorem nmX12 : ∀ a, a < 97 → ∀ b, b < 97 → a ≠ b → (TX12 a).2.1 ≠ (TX12 b).2.1 := by decide +kernel
theorem tyX12_ok : ∀ k, k < 97 → parseFieldDescriptor (TX12 k).2.2.1 = some (tyX12 k) := by decide +kernel
abbrev mm_K : List vw_C := [(RX0, TX0, 10), (RX1, TX1, 10), (RX2, TX2, 13), (RX3, TX3, 4), (RX4, TX4, 12), (RX5, TX5, 4), (RX6, TX6, 6), (RX7, TX7, 19), (RX8, TX8, 2), (RX9, TX9, 5), (RX10, TX10, 4), (RX11, TX11, 10), (RX12, TX12, 97)]
def mm_RN (o : Nat) : String := ([RX0, RX1, RX2, RX3, RX4, RX5, RX6, RX7, RX8, RX9, RX10, RX11, RX12, "GuardHouseLaw", "java/util/Arrays", "java/lang/Math"] : List String).getD o ""
def mm_TF (o : Nat) : u_T := ([TX0, TX1, TX2, TX3, TX4, TX5, TX6, TX7, TX8, TX9, TX10, TX11, TX12] : List u_T).getD o TX0
def mm_yF (o : Nat) : Nat → FieldType := ([tyX0, tyX1, tyX2, tyX3, tyX4, tyX5, tyX6, tyX7, tyX8, tyX9, tyX10, tyX11, tyX12] : List (Nat → FieldType)).getD o tyX0
def mm_nf (o : Nat) : Nat := ([10, 10, 13, 4, 12, 4, 6, 19, 2, 5, 4, 10, 97] : List Nat).getD o 0
/-- what a field holds: 0 an int, 1 a truth, 2 a long, 3 a reference -/
def mm_tys : List (List Nat) := [[3, 3, 3, 3, 0, 3, 3, 3, 0, 0], [3, 0, 0, 0, 0, 2, 0, 0, 0, 0], [3, 1, 3, 0, 3, 3, 3, 3, 0, 3, 0, 0, 0], [3, 3, 3, 3], [3, 3, 3, 3, 3, 3, 3, 3, 3, 3, 3, 3], [3, 3, 3, 0], [3, 3, 3, 3, 0, 0], [3, 3, 3, 3, 3, 3, 3, 3, 3, 3, 3, 3, 3, 3, 3, 3, 3, 3, 0], [3, 0], [3, 0, 0, 0, 2], [3, 3, 3, 3], [3, 3, 3, 3, 3, 3, 3, 3, 3, 0], [0, 3, 0, 3, 3, 1, 3, 0, 3, 0, 0, 3, 3, 3, 0, 0, 0, 0, 3, 3, 3, 0, 3, 3, 3, 3, 3, 3, 0, 3, 3, 3, 3, 3, 0, 3, 3, 3, 0, 3, 3, 3, 0, 0, 0, 0, 0, 0, 3, 0, 3, 3, 3, 3, 3, 3, 3, 0, 3, 3, 3, 3, 3, 3, 3, 3, 3, 3, 3, 0, 3, 3, 3, 3, 0, 0, 0, 0, 3, 0, 3, 0, 0, 0, 0, 0, 0, 3, 3, 3, 3, 0, 3, 3, 3, 3, 3]]
def mm_ty (o k : Nat) : Nat := (mm_tys.getD o []).getD k 3
def mm_fins : List (List Bool) := [[true, false, true, true, false, true, true, true, false, false], [true, false, false, false, false, false, false, false, false, false], [false, false, true, false, true, true, true, true, false, true, false, false, false], [true, true, true, true], [true, true, true, true, true, true, true, true, true, true, true, true], [true, true, true, false], [true, true, true, true, false, false], [true, true, true, true, true, true, true, true, true, true, true, true, true, true, true, true, true, true, false], [true, false], [true, false, false, false, false], [true, true, true, true], [true, true, true, true, true, true, true, true, true, false], [false, true, false, true, true, false, true, false, true, false, false, true, true, true, false, false, false, false, true, true, true, false, true, true, true, true, true, true, false, true, true, true, true, true, false, true, true, true, false, true, true, true, false, false, false, false, false, false, true, false, true, true, true, true, true, true, true, false, true, true, true, true, true, true, true, true, true, true, true, false, true, true, true, true, false, false, false, false, true, false, true, false, false, false, false, false, false, true, true, true, true, false, true, true, true, true, true]]
def mm_fin (o k : Nat) : Bool := (mm_fins.getD o []).getD k false
theorem mm_K_at {o : Nat} (h : o < 13) : mm_K[o]? = some (mm_RN o, mm_TF o, mm_nf o) := by
  rcases (show o = 0 ∨ o = 1 ∨ o = 2 ∨ o = 3 ∨ o = 4 ∨ o = 5 ∨ o = 6 ∨ o = 7 ∨ o = 8 ∨ o = 9 ∨ o = 10 ∨ o = 11 ∨ o = 12 by omega) with rfl | rfl | rfl | rfl | rfl | rfl | rfl | rfl | rfl | rfl | rfl | rfl | rfl <;> rfl
theorem mm_tyok {o : Nat} (h : o < 13) : ∀ k, k < mm_nf o → parseFieldDescriptor (mm_TF o k).2.2.1 = some (mm_yF o k) := by
  rcases (show o = 0 ∨ o = 1 ∨ o = 2 ∨ o = 3 ∨ o = 4 ∨ o = 5 ∨ o = 6 ∨ o = 7 ∨ o = 8 ∨ o = 9 ∨ o = 10 ∨ o = 11 ∨ o = 12 by omega) with rfl | rfl | rfl | rfl | rfl | rfl | rfl | rfl | rfl | rfl | rfl | rfl | rfl
  · exact tyX0_ok
  · exact tyX1_ok
  · exact tyX2_ok
  · exact tyX3_ok
  · exact tyX4_ok
  · exact tyX5_ok
  · exact tyX6_ok
  · exact tyX7_ok
  · exact tyX8_ok
  · exact tyX9_ok
  · exact tyX10_ok
  · exact tyX11_ok
  · exact tyX12_ok
theorem mm_nmok {o : Nat} (h : o < 13) : ∀ a, a < mm_nf o → ∀ b, b < mm_nf o → a ≠ b → (mm_TF o a).2.1 ≠ (mm_TF o b).2.1 := by
  rcases (show o = 0 ∨ o = 1 ∨ o = 2 ∨ o = 3 ∨ o = 4 ∨ o = 5 ∨ o = 6 ∨ o = 7 ∨ o = 8 ∨ o = 9 ∨ o = 10 ∨ o = 11 ∨ o = 12 by omega) with rfl | rfl | rfl | rfl | rfl | rfl | rfl | rfl | rfl | rfl | rfl | rfl | rfl
  · exact nmX0
  · exact nmX1
  · exact nmX2
  · exact nmX3
  · exact nmX4
  · exact nmX5
  · exact nmX6
  · exact nmX7
  · exact nmX8
  · exact nmX9
  · exact nmX10
  · exact nmX11
  · exact nmX12
theorem mm_in_of (ws : List Cond) (ps : List Nat) (h : ws = ps.filterMap (fun i => tables_1[i]?)) : ∀ w ∈ ws, w ∈ lw_tbl := by
  intro w hw
  rw [h] at hw
  obtain ⟨i, -, hi⟩ := List.mem_filterMap.mp hw
  exact List.mem_append_right _ (List.mem_of_getElem? hi)
set_option maxRecDepth 100000 in
theorem mm_uw0 : ∀ w ∈ u_ws RX0 TX0 10, w ∈ lw_tbl := mm_in_of _ [180, 182, 184, 186, 188, 190, 192, 194, 196, 198] (by decide +kernel)
set_option maxRecDepth 100000 in
theorem mm_uw1 : ∀ w ∈ u_ws RX1 TX1 10, w ∈ lw_tbl := mm_in_of _ [221, 223, 225, 227, 229, 231, 233, 235, 237, 239] (by decide +kernel)
set_option maxRecDepth 100000 in
theorem mm_uw2 : ∀ w ∈ u_ws RX2 TX2 13, w ∈ lw_tbl := mm_in_of _ [272, 274, 276, 278, 280, 282, 284, 286, 288, 290, 292, 294, 296] (by decide +kernel)
set_option maxRecDepth 100000 in
theorem mm_uw3 : ∀ w ∈ u_ws RX3 TX3 4, w ∈ lw_tbl := mm_in_of _ [441, 443, 445, 447] (by decide +kernel)
set_option maxRecDepth 100000 in
theorem mm_uw4 : ∀ w ∈ u_ws RX4 TX4 12, w ∈ lw_tbl := mm_in_of _ [381, 383, 385, 387, 389, 391, 393, 395, 397, 399, 401, 403] (by decide +kernel)
set_option maxRecDepth 100000 in
theorem mm_uw5 : ∀ w ∈ u_ws RX5 TX5 4, w ∈ lw_tbl := mm_in_of _ [342, 344, 346, 348] (by decide +kernel)
set_option maxRecDepth 100000 in
theorem mm_uw6 : ∀ w ∈ u_ws RX6 TX6 6, w ∈ lw_tbl := mm_in_of _ [418, 420, 422, 424, 426, 428] (by decide +kernel)
set_option maxRecDepth 100000 in
theorem mm_uw7 : ∀ w ∈ u_ws RX7 TX7 19, w ∈ lw_tbl := mm_in_of _ [103, 105, 107, 109, 111, 113, 115, 117, 119, 121, 123, 125, 127, 129, 131, 133, 135, 137, 139] (by decide +kernel)
set_option maxRecDepth 100000 in
theorem mm_uw8 : ∀ w ∈ u_ws RX8 TX8 2, w ∈ lw_tbl := mm_in_of _ [48, 50] (by decide +kernel)
set_option maxRecDepth 100000 in
theorem mm_uw9 : ∀ w ∈ u_ws RX9 TX9 5, w ∈ lw_tbl := mm_in_of _ [157, 159, 161, 163, 165] (by decide +kernel)
set_option maxRecDepth 100000 in
theorem mm_uw10 : ∀ w ∈ u_ws RX10 TX10 4, w ∈ lw_tbl := mm_in_of _ [325, 327, 329, 331] (by decide +kernel)
set_option maxRecDepth 100000 in
theorem mm_uw11 : ∀ w ∈ u_ws RX11 TX11 10, w ∈ lw_tbl := mm_in_of _ [460, 462, 464, 466, 468, 470, 472, 474, 476, 478] (by decide +kernel)
set_option maxRecDepth 100000 in
theorem mm_uw12 : ∀ w ∈ u_ws RX12 TX12 97, w ∈ lw_tbl := mm_in_of _ [1683, 1685, 1687, 1689, 1691, 1693, 1695, 1697, 1699, 1701, 1703, 1705, 1707, 1709, 1711, 1713, 1715, 1717, 1719, 1721, 1723, 1725, 1727, 1729, 1731, 1733, 1735, 1737, 1739, 1741, 1743, 1745, 1747, 1749, 1751, 1753, 1755, 1757, 1759, 1761, 1763, 1765, 1767, 1769, 1771, 1773, 1775, 1777, 1779, 1781, 1783, 1785, 1787, 1789, 1791, 1793, 1795, 1797, 1799, 1801, 1803, 1805, 1807, 1809, 1811, 1813, 1815, 1817, 1819, 1821, 1823, 1825, 1827, 1829, 1831, 1833, 1835, 1837, 1839, 1841, 1843, 1845, 1847, 1849, 1851, 1853, 1855, 1857, 1859, 1861, 1863, 1865, 1867, 1869, 1871, 1873, 1875] (by decide +kernel)
theorem mm_uw {o : Nat} (h : o < 13) : ∀ w ∈ u_ws (mm_RN o) (mm_TF o) (mm_nf o), w ∈ lw_tbl := by
  rcases (show o = 0 ∨ o = 1 ∨ o = 2 ∨ o = 3 ∨ o = 4 ∨ o = 5 ∨ o = 6 ∨ o = 7 ∨ o = 8 ∨ o = 9 ∨ o = 10 ∨ o = 11 ∨ o = 12 by omega) with rfl | rfl | rfl | rfl | rfl | rfl | rfl | rfl | rfl | rfl | rfl | rfl | rfl
  · exact mm_uw0
  · exact mm_uw1
  · exact mm_uw2
  · exact mm_uw3
  · exact mm_uw4
  · exact mm_uw5
  · exact mm_uw6
  · exact mm_uw7
  · exact mm_uw8
  · exact mm_uw9
  · exact mm_uw10
  · exact mm_uw11
  · exact mm_uw12
def mm_tyF : FieldType → Nat
  | .int => 0
  | .boolean => 1
  | .long => 2
  | .object _ => 3
  | .array _ => 3
  | _ => 9
theorem mm_fd0 : ∀ k, k < 10 → (mm_tyF (tyX0 k) = mm_ty 0 k ∧ (TX0 k).2.2.2 = mm_fin 0 k ∧ (TX0 k).1 = RX0) := by decide +kernel
theorem mm_fd1 : ∀ k, k < 10 → (mm_tyF (tyX1 k) = mm_ty 1 k ∧ (TX1 k).2.2.2 = mm_fin 1 k ∧ (TX1 k).1 = RX1) := by decide +kernel
theorem mm_fd2 : ∀ k, k < 13 → (mm_tyF (tyX2 k) = mm_ty 2 k ∧ (TX2 k).2.2.2 = mm_fin 2 k ∧ (TX2 k).1 = RX2) := by decide +kernel
theorem mm_fd3 : ∀ k, k < 4 → (mm_tyF (tyX3 k) = mm_ty 3 k ∧ (TX3 k).2.2.2 = mm_fin 3 k ∧ (TX3 k).1 = RX3) := by decide +kernel
theorem mm_fd4 : ∀ k, k < 12 → (mm_tyF (tyX4 k) = mm_ty 4 k ∧ (TX4 k).2.2.2 = mm_fin 4 k ∧ (TX4 k).1 = RX4) := by decide +kernel
theorem mm_fd5 : ∀ k, k < 4 → (mm_tyF (tyX5 k) = mm_ty 5 k ∧ (TX5 k).2.2.2 = mm_fin 5 k ∧ (TX5 k).1 = RX5) := by decide +kernel
theorem mm_fd6 : ∀ k, k < 6 → (mm_tyF (tyX6 k) = mm_ty 6 k ∧ (TX6 k).2.2.2 = mm_fin 6 k ∧ (TX6 k).1 = RX6) := by decide +kernel
theorem mm_fd7 : ∀ k, k < 19 → (mm_tyF (tyX7 k) = mm_ty 7 k ∧ (TX7 k).2.2.2 = mm_fin 7 k ∧ (TX7 k).1 = RX7) := by decide +kernel
theorem mm_fd8 : ∀ k, k < 2 → (mm_tyF (tyX8 k) = mm_ty 8 k ∧ (TX8 k).2.2.2 = mm_fin 8 k ∧ (TX8 k).1 = RX8) := by decide +kernel
theorem mm_fd9 : ∀ k, k < 5 → (mm_tyF (tyX9 k) = mm_ty 9 k ∧ (TX9 k).2.2.2 = mm_fin 9 k ∧ (TX9 k).1 = RX9) := by decide +kernel
theorem mm_fd10 : ∀ k, k < 4 → (mm_tyF (tyX10 k) = mm_ty 10 k ∧ (TX10 k).2.2.2 = mm_fin 10 k ∧ (TX10 k).1 = RX10) := by decide +kernel
theorem mm_fd11 : ∀ k, k < 10 → (mm_tyF (tyX11 k) = mm_ty 11 k ∧ (TX11 k).2.2.2 = mm_fin 11 k ∧ (TX11 k).1 = RX11) := by decide +kernel
theorem mm_fd12 : ∀ k, k < 97 → (mm_tyF (tyX12 k) = mm_ty 12 k ∧ (TX12 k).2.2.2 = mm_fin 12 k ∧ (TX12 k).1 = RX12) := by decide +kernel
theorem mm_fd {o : Nat} (h : o < 13) : ∀ k, k < mm_nf o → (mm_tyF (mm_yF o k) = mm_ty o k ∧ (mm_TF o k).2.2.2 = mm_fin o k ∧ (mm_TF o k).1 = mm_RN o) := by
  rcases (show o = 0 ∨ o = 1 ∨ o = 2 ∨ o = 3 ∨ o = 4 ∨ o = 5 ∨ o = 6 ∨ o = 7 ∨ o = 8 ∨ o = 9 ∨ o = 10 ∨ o = 11 ∨ o = 12 by omega) with rfl | rfl | rfl | rfl | rfl | rfl | rfl | rfl | rfl | rfl | rfl | rfl | rfl
  · exact mm_fd0
  · exact mm_fd1
  · exact mm_fd2
  · exact mm_fd3
  · exact mm_fd4
  · exact mm_fd5
  · exact mm_fd6
  · exact mm_fd7
  · exact mm_fd8
  · exact mm_fd9
  · exact mm_fd10
  · exact mm_fd11
  · exact mm_fd12
