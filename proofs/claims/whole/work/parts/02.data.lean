/-! classes 0 .. 10 (Answer Findings Heads Matcher Net Nodes Pattern Reader Text RuleNet RuleNetModel), owners 11 Printer, 12 Math, 13 the law -/
def cnm : Nat → String := fun t => match t with
  | 0 => "RuleNet$Answer"
  | 1 => "RuleNet$Findings"
  | 2 => "RuleNet$Heads"
  | 3 => "RuleNet$Matcher"
  | 4 => "RuleNet$Net"
  | 5 => "RuleNet$Nodes"
  | 6 => "RuleNet$Pattern"
  | 7 => "RuleNet$Reader"
  | 8 => "RuleNet$Text"
  | 9 => "RuleNet"
  | 10 => "RuleNetModel"
  | 11 => "RuleNet$Printer"
  | 12 => "java/lang/Math"
  | _ => "RuleNetLaw"
def fT0 : u_T := fun k => match k with
  | 0 => ("RuleNet$Answer", "filled", "[I", true)
  | 1 => ("RuleNet$Answer", "count", "I", false)
  | 2 => ("RuleNet$Answer", "tries", "I", false)
  | 3 => ("RuleNet$Answer", "spent", "Z", false)
  | _ => ("RuleNet$Answer", "many", "Z", false)
def fT1 : u_T := fun k => match k with
  | 0 => ("RuleNet$Findings", "matcher", "LRuleNet$Matcher;", true)
  | 1 => ("RuleNet$Findings", "tree", "LRuleNet$Nodes;", true)
  | 2 => ("RuleNet$Findings", "answer", "LRuleNet$Answer;", true)
  | 3 => ("RuleNet$Findings", "nodes", "[I", true)
  | 4 => ("RuleNet$Findings", "count", "I", false)
  | 5 => ("RuleNet$Findings", "nextNode", "I", false)
  | _ => ("RuleNet$Findings", "sought", "LRuleNet$Pattern;", false)
def fT2 : u_T := fun k => match k with
  | 0 => ("RuleNet$Heads", "upper", "[I", true)
  | 1 => ("RuleNet$Heads", "headKind", "[I", true)
  | 2 => ("RuleNet$Heads", "headParts", "[I", true)
  | 3 => ("RuleNet$Heads", "headLoose", "[Z", true)
  | 4 => ("RuleNet$Heads", "kinds", "I", false)
  | _ => ("RuleNet$Heads", "heads", "I", false)
def fT3 : u_T := fun k => match k with
  | 0 => ("RuleNet$Matcher", "heads", "LRuleNet$Heads;", true)
  | 1 => ("RuleNet$Matcher", "tree", "LRuleNet$Nodes;", true)
  | 2 => ("RuleNet$Matcher", "filled", "[I", true)
  | 3 => ("RuleNet$Matcher", "chainPart", "[I", true)
  | 4 => ("RuleNet$Matcher", "chainNode", "[I", true)
  | 5 => ("RuleNet$Matcher", "chainNext", "[I", true)
  | 6 => ("RuleNet$Matcher", "chained", "I", false)
  | 7 => ("RuleNet$Matcher", "pattern", "LRuleNet$Nodes;", false)
  | 8 => ("RuleNet$Matcher", "answer", "LRuleNet$Answer;", false)
  | _ => ("RuleNet$Matcher", "firstOnly", "Z", false)
def fT4 : u_T := fun k => match k with
  | 0 => ("RuleNet$Net", "heads", "LRuleNet$Heads;", true)
  | 1 => ("RuleNet$Net", "tree", "LRuleNet$Nodes;", true)
  | 2 => ("RuleNet$Net", "patterns", "[LRuleNet$Pattern;", true)
  | 3 => ("RuleNet$Net", "passed", "[I", true)
  | _ => ("RuleNet$Net", "stoppedAt", "I", false)
def fT5 : u_T := fun k => match k with
  | 0 => ("RuleNet$Nodes", "sort", "[I", true)
  | 1 => ("RuleNet$Nodes", "head", "[I", true)
  | 2 => ("RuleNet$Nodes", "kind", "[I", true)
  | 3 => ("RuleNet$Nodes", "name", "[I", true)
  | 4 => ("RuleNet$Nodes", "spanned", "[Z", true)
  | 5 => ("RuleNet$Nodes", "number", "[J", true)
  | 6 => ("RuleNet$Nodes", "last", "[J", true)
  | 7 => ("RuleNet$Nodes", "parent", "[I", true)
  | 8 => ("RuleNet$Nodes", "size", "[I", true)
  | _ => ("RuleNet$Nodes", "count", "I", false)
def fT6 : u_T := fun k => match k with
  | 0 => ("RuleNet$Pattern", "nodes", "LRuleNet$Nodes;", true)
  | 1 => ("RuleNet$Pattern", "again", "[I", true)
  | 2 => ("RuleNet$Pattern", "answer", "LRuleNet$Answer;", true)
  | 3 => ("RuleNet$Pattern", "present", "Z", false)
  | 4 => ("RuleNet$Pattern", "rank", "I", false)
  | 5 => ("RuleNet$Pattern", "namedHoles", "I", false)
  | 6 => ("RuleNet$Pattern", "names", "I", false)
  | _ => ("RuleNet$Pattern", "wild", "I", false)
def fT7 : u_T := fun k => match k with
  | 0 => ("RuleNet$Reader", "heads", "LRuleNet$Heads;", true)
  | 1 => ("RuleNet$Reader", "text", "LRuleNet$Text;", true)
  | 2 => ("RuleNet$Reader", "draft", "LRuleNet$Nodes;", true)
  | 3 => ("RuleNet$Reader", "asPattern", "Z", false)
  | 4 => ("RuleNet$Reader", "room", "I", false)
  | 5 => ("RuleNet$Reader", "pos", "I", false)
  | 6 => ("RuleNet$Reader", "value", "J", false)
  | 7 => ("RuleNet$Reader", "fault", "I", false)
  | _ => ("RuleNet$Reader", "place", "I", false)
def fT8 : u_T := fun k => match k with
  | 0 => ("RuleNet$Text", "bytes", "[I", true)
  | _ => ("RuleNet$Text", "length", "I", false)
def fT9 : u_T := fun k => match k with
  | 0 => ("RuleNet", "heads", "LRuleNet$Heads;", true)
  | 1 => ("RuleNet", "tape", "LRuleNet$Text;", true)
  | 2 => ("RuleNet", "printed", "LRuleNet$Text;", true)
  | 3 => ("RuleNet", "theTree", "LRuleNet$Nodes;", true)
  | 4 => ("RuleNet", "draft", "LRuleNet$Nodes;", true)
  | 5 => ("RuleNet", "patterns", "[LRuleNet$Pattern;", true)
  | 6 => ("RuleNet", "reader", "LRuleNet$Reader;", true)
  | 7 => ("RuleNet", "matcher", "LRuleNet$Matcher;", true)
  | 8 => ("RuleNet", "net", "LRuleNet$Net;", true)
  | 9 => ("RuleNet", "findings", "LRuleNet$Findings;", true)
  | 10 => ("RuleNet", "spareAnswer", "LRuleNet$Answer;", true)
  | 11 => ("RuleNet", "fitting", "[I", true)
  | 12 => ("RuleNet", "fittingCount", "I", false)
  | _ => ("RuleNet", "isAsked", "Z", false)
def fT10 : u_T := fun k => match k with
  | 0 => ("RuleNetModel", "kinds", "I", false)
  | 1 => ("RuleNetModel", "above", "[I", true)
  | 2 => ("RuleNetModel", "heads", "I", false)
  | 3 => ("RuleNetModel", "headKind", "[I", true)
  | 4 => ("RuleNetModel", "headParts", "[I", true)
  | 5 => ("RuleNetModel", "isLoose", "[Z", true)
  | 6 => ("RuleNetModel", "tape", "[B", true)
  | 7 => ("RuleNetModel", "taped", "I", false)
  | 8 => ("RuleNetModel", "readWhat", "[I", true)
  | 9 => ("RuleNetModel", "readHead", "[I", true)
  | 10 => ("RuleNetModel", "readNumber", "[J", true)
  | 11 => ("RuleNetModel", "readName", "[I", true)
  | 12 => ("RuleNetModel", "readKind", "[I", true)
  | 13 => ("RuleNetModel", "readSpan", "[Z", true)
  | 14 => ("RuleNetModel", "readFirst", "[J", true)
  | 15 => ("RuleNetModel", "readSecond", "[J", true)
  | 16 => ("RuleNetModel", "readEnd", "[I", true)
  | 17 => ("RuleNetModel", "reads", "I", false)
  | 18 => ("RuleNetModel", "most", "I", false)
  | 19 => ("RuleNetModel", "isPattern", "Z", false)
  | 20 => ("RuleNetModel", "at", "I", false)
  | 21 => ("RuleNetModel", "fault", "I", false)
  | 22 => ("RuleNetModel", "faultAt", "I", false)
  | 23 => ("RuleNetModel", "placed", "I", false)
  | 24 => ("RuleNetModel", "deep", "I", false)
  | 25 => ("RuleNetModel", "open", "[I", true)
  | 26 => ("RuleNetModel", "openDone", "[I", true)
  | 27 => ("RuleNetModel", "opens", "I", false)
  | 28 => ("RuleNetModel", "wants", "Z", false)
  | 29 => ("RuleNetModel", "isThere", "[Z", true)
  | 30 => ("RuleNetModel", "rank", "[I", true)
  | 31 => ("RuleNetModel", "size", "[I", true)
  | 32 => ("RuleNetModel", "what", "[I", true)
  | 33 => ("RuleNetModel", "head", "[I", true)
  | 34 => ("RuleNetModel", "value", "[J", true)
  | 35 => ("RuleNetModel", "name", "[I", true)
  | 36 => ("RuleNetModel", "holeKind", "[I", true)
  | 37 => ("RuleNetModel", "hasSpan", "[Z", true)
  | 38 => ("RuleNetModel", "first", "[J", true)
  | 39 => ("RuleNetModel", "second", "[J", true)
  | 40 => ("RuleNetModel", "end", "[I", true)
  | 41 => ("RuleNetModel", "patterns", "I", false)
  | 42 => ("RuleNetModel", "nodes", "I", false)
  | 43 => ("RuleNetModel", "treeHead", "[I", true)
  | 44 => ("RuleNetModel", "treeNumber", "[J", true)
  | 45 => ("RuleNetModel", "treeEnd", "[I", true)
  | 46 => ("RuleNetModel", "treeUp", "[I", true)
  | 47 => ("RuleNetModel", "isAsked", "Z", false)
  | 48 => ("RuleNetModel", "goalP", "[I", true)
  | 49 => ("RuleNetModel", "goalT", "[I", true)
  | 50 => ("RuleNetModel", "goalNext", "[I", true)
  | 51 => ("RuleNetModel", "goals", "I", false)
  | 52 => ("RuleNetModel", "fill", "[I", true)
  | 53 => ("RuleNetModel", "choice", "[I", true)
  | 54 => ("RuleNetModel", "choiceP", "[I", true)
  | 55 => ("RuleNetModel", "choiceT", "[I", true)
  | 56 => ("RuleNetModel", "choiceAt", "[I", true)
  | 57 => ("RuleNetModel", "choiceRest", "[I", true)
  | 58 => ("RuleNetModel", "choiceGoals", "[I", true)
  | 59 => ("RuleNetModel", "choiceFill", "[I", true)
  | 60 => ("RuleNetModel", "choices", "I", false)
  | 61 => ("RuleNetModel", "tries", "I", false)
  | 62 => ("RuleNetModel", "isSpent", "Z", false)
  | 63 => ("RuleNetModel", "isMany", "Z", false)
  | 64 => ("RuleNetModel", "kept", "I", false)
  | 65 => ("RuleNetModel", "keptFill", "[I", true)
  | 66 => ("RuleNetModel", "chain", "I", false)
  | 67 => ("RuleNetModel", "perm", "[I", true)
  | 68 => ("RuleNetModel", "askedMany", "[I", true)
  | 69 => ("RuleNetModel", "askedTries", "[I", true)
  | 70 => ("RuleNetModel", "askedSpent", "[Z", true)
  | 71 => ("RuleNetModel", "askedLots", "[Z", true)
  | 72 => ("RuleNetModel", "askedFill", "[I", true)
  | 73 => ("RuleNetModel", "partsNode", "I", false)
  | 74 => ("RuleNetModel", "passed", "[I", true)
  | 75 => ("RuleNetModel", "out", "[B", true)
  | 76 => ("RuleNetModel", "outMany", "I", false)
  | 77 => ("RuleNetModel", "shut", "[I", true)
  | 78 => ("RuleNetModel", "shutParts", "[I", true)
  | _ => ("RuleNetModel", "shuts", "I", false)
def fT : Nat → u_T := fun t => match t with
  | 0 => fT0
  | 1 => fT1
  | 2 => fT2
  | 3 => fT3
  | 4 => fT4
  | 5 => fT5
  | 6 => fT6
  | 7 => fT7
  | 8 => fT8
  | 9 => fT9
  | _ => fT10
def nf : Nat → Nat := fun t => match t with
  | 0 => 5
  | 1 => 7
  | 2 => 6
  | 3 => 10
  | 4 => 5
  | 5 => 10
  | 6 => 8
  | 7 => 9
  | 8 => 2
  | 9 => 14
  | _ => 80
/-- kinds of fields: 0 int, 1 boolean, 2 long, 3 a final reference, 4 a reference that changes; and the type of what it refers to -/
def fkL0 : List (Nat × Nat) := [(3, 20), (0, 0), (0, 0), (1, 0), (1, 0)]
def fkL1 : List (Nat × Nat) := [(3, 3), (3, 5), (3, 0), (3, 20), (0, 0), (0, 0), (4, 6)]
def fkL2 : List (Nat × Nat) := [(3, 20), (3, 20), (3, 20), (3, 22), (0, 0), (0, 0)]
def fkL3 : List (Nat × Nat) := [(3, 2), (3, 5), (3, 20), (3, 20), (3, 20), (3, 20), (0, 0), (4, 5), (4, 0), (1, 0)]
def fkL4 : List (Nat × Nat) := [(3, 2), (3, 5), (3, 24), (3, 20), (0, 0)]
def fkL5 : List (Nat × Nat) := [(3, 20), (3, 20), (3, 20), (3, 20), (3, 22), (3, 21), (3, 21), (3, 20), (3, 20), (0, 0)]
def fkL6 : List (Nat × Nat) := [(3, 5), (3, 20), (3, 0), (1, 0), (0, 0), (0, 0), (0, 0), (0, 0)]
def fkL7 : List (Nat × Nat) := [(3, 2), (3, 8), (3, 5), (1, 0), (0, 0), (0, 0), (2, 0), (0, 0), (0, 0)]
def fkL8 : List (Nat × Nat) := [(3, 20), (0, 0)]
def fkL9 : List (Nat × Nat) := [(3, 2), (3, 8), (3, 8), (3, 5), (3, 5), (3, 24), (3, 7), (3, 3), (3, 4), (3, 1), (3, 0), (3, 20), (0, 0), (1, 0)]
def fkL10 : List (Nat × Nat) := [(0, 0), (3, 20), (0, 0), (3, 20), (3, 20), (3, 22), (3, 23), (0, 0), (3, 20), (3, 20), (3, 21), (3, 20), (3, 20), (3, 22), (3, 21), (3, 21), (3, 20), (0, 0), (0, 0), (1, 0), (0, 0), (0, 0), (0, 0), (0, 0), (0, 0), (3, 20), (3, 20), (0, 0), (1, 0), (3, 22), (3, 20), (3, 20), (3, 20), (3, 20), (3, 21), (3, 20), (3, 20), (3, 22), (3, 21), (3, 21), (3, 20), (0, 0), (0, 0), (3, 20), (3, 21), (3, 20), (3, 20), (1, 0), (3, 20), (3, 20), (3, 20), (0, 0), (3, 20), (3, 20), (3, 20), (3, 20), (3, 20), (3, 20), (3, 20), (3, 20), (0, 0), (0, 0), (1, 0), (1, 0), (0, 0), (3, 20), (0, 0), (3, 20), (3, 20), (3, 20), (3, 22), (3, 22), (3, 20), (0, 0), (3, 20), (3, 23), (0, 0), (3, 20), (3, 20), (0, 0)]
def fkL : Nat → List (Nat × Nat) := fun t => match t with
  | 0 => fkL0
  | 1 => fkL1
  | 2 => fkL2
  | 3 => fkL3
  | 4 => fkL4
  | 5 => fkL5
  | 6 => fkL6
  | 7 => fkL7
  | 8 => fkL8
  | 9 => fkL9
  | _ => fkL10
def fkt (t k : Nat) : Nat × Nat := (fkL t).getD k (0, 0)
/-- field types, parsed -/
def fyL0 : List FieldType := [(.array .int), .int, .int, .boolean, .boolean]
def fyL1 : List FieldType := [(.object "RuleNet$Matcher"), (.object "RuleNet$Nodes"), (.object "RuleNet$Answer"), (.array .int), .int, .int, (.object "RuleNet$Pattern")]
def fyL2 : List FieldType := [(.array .int), (.array .int), (.array .int), (.array .boolean), .int, .int]
def fyL3 : List FieldType := [(.object "RuleNet$Heads"), (.object "RuleNet$Nodes"), (.array .int), (.array .int), (.array .int), (.array .int), .int, (.object "RuleNet$Nodes"), (.object "RuleNet$Answer"), .boolean]
def fyL4 : List FieldType := [(.object "RuleNet$Heads"), (.object "RuleNet$Nodes"), (.array (.object "RuleNet$Pattern")), (.array .int), .int]
def fyL5 : List FieldType := [(.array .int), (.array .int), (.array .int), (.array .int), (.array .boolean), (.array .long), (.array .long), (.array .int), (.array .int), .int]
def fyL6 : List FieldType := [(.object "RuleNet$Nodes"), (.array .int), (.object "RuleNet$Answer"), .boolean, .int, .int, .int, .int]
def fyL7 : List FieldType := [(.object "RuleNet$Heads"), (.object "RuleNet$Text"), (.object "RuleNet$Nodes"), .boolean, .int, .int, .long, .int, .int]
def fyL8 : List FieldType := [(.array .int), .int]
def fyL9 : List FieldType := [(.object "RuleNet$Heads"), (.object "RuleNet$Text"), (.object "RuleNet$Text"), (.object "RuleNet$Nodes"), (.object "RuleNet$Nodes"), (.array (.object "RuleNet$Pattern")), (.object "RuleNet$Reader"), (.object "RuleNet$Matcher"), (.object "RuleNet$Net"), (.object "RuleNet$Findings"), (.object "RuleNet$Answer"), (.array .int), .int, .boolean]
def fyL10 : List FieldType := [.int, (.array .int), .int, (.array .int), (.array .int), (.array .boolean), (.array .byte), .int, (.array .int), (.array .int), (.array .long), (.array .int), (.array .int), (.array .boolean), (.array .long), (.array .long), (.array .int), .int, .int, .boolean, .int, .int, .int, .int, .int, (.array .int), (.array .int), .int, .boolean, (.array .boolean), (.array .int), (.array .int), (.array .int), (.array .int), (.array .long), (.array .int), (.array .int), (.array .boolean), (.array .long), (.array .long), (.array .int), .int, .int, (.array .int), (.array .long), (.array .int), (.array .int), .boolean, (.array .int), (.array .int), (.array .int), .int, (.array .int), (.array .int), (.array .int), (.array .int), (.array .int), (.array .int), (.array .int), (.array .int), .int, .int, .boolean, .boolean, .int, (.array .int), .int, (.array .int), (.array .int), (.array .int), (.array .boolean), (.array .boolean), (.array .int), .int, (.array .int), (.array .byte), .int, (.array .int), (.array .int), .int]
def fyL : Nat → List FieldType := fun t => match t with
  | 0 => fyL0
  | 1 => fyL1
  | 2 => fyL2
  | 3 => fyL3
  | 4 => fyL4
  | 5 => fyL5
  | 6 => fyL6
  | 7 => fyL7
  | 8 => fyL8
  | 9 => fyL9
  | _ => fyL10
def fty (t k : Nat) : FieldType := (fyL t).getD k .int
def aty : Nat → FieldType := fun t => match t with
  | 20 => .int
  | 21 => .long
  | 22 => .boolean
  | 23 => .byte
  | _ => .object "RuleNet$Pattern"
def akd : Nat → Nat × Nat := fun t => match t with
  | 20 => (0, 0)
  | 21 => (2, 0)
  | 22 => (1, 0)
  | 23 => (5, 0)
  | _ => (3, 6)
def shA : List (Nat × Int) := [(99, 0), (20, 0), (20, 5), (20, 96), (9, 0), (2, 0), (20, 12), (20, 20), (20, 20), (22, 20), (8, 0), (20, 1000), (8, 0), (20, 3000), (5, 0), (20, 120), (20, 120), (20, 120), (20, 120), (22, 120), (21, 120), (21, 120), (20, 120), (20, 120), (5, 0), (20, 120), (20, 120), (20, 120), (20, 120), (22, 120), (21, 120), (21, 120), (20, 120), (20, 120), (24, 40)]
def shP : List (Nat × Int) := [(6, 0), (5, 0), (20, 24), (20, 24), (20, 24), (20, 24), (22, 24), (21, 24), (21, 24), (20, 24), (20, 24), (20, 24), (0, 0), (20, 300)]
def shB : List (Nat × Int) := [(0, 0), (20, 300), (7, 0), (3, 0), (20, 10), (20, 24), (20, 24), (20, 24), (1, 0), (20, 120), (4, 0), (20, 24), (20, 40), (10, 0), (20, 12), (20, 20), (20, 20), (22, 20), (23, 1000), (20, 121), (20, 121), (21, 121), (20, 121), (20, 121), (22, 121), (21, 121), (21, 121), (20, 121), (20, 200), (20, 200), (22, 40), (20, 40), (20, 40), (20, 960), (20, 960), (21, 960), (20, 960), (20, 960), (22, 960), (21, 960), (21, 960), (20, 960), (20, 240), (21, 240), (20, 240), (20, 120), (20, 10200), (20, 10200), (20, 10200), (20, 10), (20, 2100), (20, 2100), (20, 2100), (20, 2100), (20, 2100), (20, 2100), (20, 21000), (20, 300), (20, 4), (20, 40), (20, 40), (22, 40), (22, 40), (20, 12000), (20, 24), (23, 4000), (20, 130), (20, 130)]
/-- what lies at an address of the light heap: a class, or a kind of array (20 int, 21 long, 22 boolean, 23 byte, 24 Pattern) and its length -/
def SH (a : Int) : Nat × Int := if a < 35 then shA.getD a.toNat (99, 0) else if a < 595 then shP.getD ((a - 35) % 14).toNat (99, 0) else shB.getD (a - 595).toNat (99, 0)
def rcL (t : Nat) (a : Int) : List Int := match t with
  | 0 => [a + 1, 0, 0, 0, 0]
  | 1 => [598, 14, 595, a + 1, 0, 0, 0]
  | 2 => [a + 1, a + 2, a + 3, a + 4, 0, 0]
  | 3 => [5, 14, a + 1, a + 2, a + 3, a + 4, 0, 0, 0, 0]
  | 4 => [5, 14, 34, a + 1, 0]
  | 5 => [a + 1, a + 2, a + 3, a + 4, a + 5, a + 6, a + 7, a + 8, a + 9, 0]
  | 6 => [a + 1, a + 11, a + 12, 0, 0, 0, 0, 0]
  | 7 => [5, 10, 24, 0, 0, 0, 0, 0, 0]
  | 8 => [a + 1, 0]
  | 9 => [5, 10, 12, 14, 24, 34, 597, 598, 605, 603, 595, 607, 0, 0]
  | 10 => [0, 609, 0, 610, 611, 612, 613, 0, 614, 615, 616, 617, 618, 619, 620, 621, 622, 0, 0, 0, 0, 0, 0, 0, 0, 623, 624, 0, 0, 625, 626, 627, 628, 629, 630, 631, 632, 633, 634, 635, 636, 0, 0, 637, 638, 639, 640, 0, 641, 642, 643, 0, 644, 645, 646, 647, 648, 649, 650, 651, 0, 0, 0, 0, 0, 652, 0, 653, 654, 655, 656, 657, 658, 0, 659, 660, 0, 661, 662, 0]
  | _ => []
/-- the references that never change once all is made -/
def RC (t : Nat) (a k : Int) : Int := match t with
  | 24 => 35 + 14 * k
  | t => (rcL t a).getD k.toNat 0
def NX : Int := 663
abbrev MI : Type := MethodName × ByteArray × Nat × Option FieldType
def i9_init : MI := (⟨"RuleNet", "<init>", "()V"⟩, prog_1_method_1_code, 2, none)
def i2_init : MI := (⟨"RuleNet$Heads", "<init>", "()V"⟩, prog_4_method_1_code, 1, none)
def i8_init : MI := (⟨"RuleNet$Text", "<init>", "(I)V"⟩, prog_11_method_1_code, 2, none)
def i12_max : MI := (⟨"java/lang/Math", "max", "(II)I"⟩, prog_14_method_65_code, 2, (some FieldType.int))
def i5_init : MI := (⟨"RuleNet$Nodes", "<init>", "(I)V"⟩, prog_7_method_1_code, 3, none)
def i6_init : MI := (⟨"RuleNet$Pattern", "<init>", "()V"⟩, prog_8_method_1_code, 1, none)
def i0_init : MI := (⟨"RuleNet$Answer", "<init>", "()V"⟩, prog_2_method_1_code, 1, none)
def i7_init : MI := (⟨"RuleNet$Reader", "<init>", "(LRuleNet$Heads;LRuleNet$Text;LRuleNet$Nodes;)V"⟩, prog_10_method_1_code, 4, none)
def i3_init : MI := (⟨"RuleNet$Matcher", "<init>", "(LRuleNet$Heads;LRuleNet$Nodes;LRuleNet$Answer;)V"⟩, prog_5_method_1_code, 4, none)
def i1_init : MI := (⟨"RuleNet$Findings", "<init>", "(LRuleNet$Matcher;LRuleNet$Nodes;LRuleNet$Answer;)V"⟩, prog_3_method_1_code, 4, none)
def i4_init : MI := (⟨"RuleNet$Net", "<init>", "(LRuleNet$Heads;LRuleNet$Nodes;[LRuleNet$Pattern;)V"⟩, prog_6_method_1_code, 4, none)
def i9_kind : MI := (⟨"RuleNet", "kind", "(I)I"⟩, prog_1_method_2_code, 2, (some FieldType.int))
def i2_hasKind : MI := (⟨"RuleNet$Heads", "hasKind", "(J)Z"⟩, prog_4_method_2_code, 3, (some FieldType.boolean))
def i2_addKind : MI := (⟨"RuleNet$Heads", "addKind", "(I)I"⟩, prog_4_method_4_code, 2, (some FieldType.int))
def i9_isUnder : MI := (⟨"RuleNet", "isUnder", "(II)I"⟩, prog_1_method_3_code, 3, (some FieldType.int))
def i2_isBelow : MI := (⟨"RuleNet$Heads", "isBelow", "(II)Z"⟩, prog_4_method_6_code, 5, (some FieldType.boolean))
def i9_asInt : MI := (⟨"RuleNet", "asInt", "(Z)I"⟩, prog_1_method_31_code, 1, (some FieldType.int))
def i9_head : MI := (⟨"RuleNet", "head", "(IIZ)I"⟩, prog_1_method_4_code, 4, (some FieldType.int))
def i2_addHead : MI := (⟨"RuleNet$Heads", "addHead", "(IIZ)I"⟩, prog_4_method_5_code, 4, (some FieldType.int))
def i9_feed : MI := (⟨"RuleNet", "feed", "(IIIII)I"⟩, prog_1_method_5_code, 6, (some FieldType.int))
def i8_addFour : MI := (⟨"RuleNet$Text", "addFour", "(I)V"⟩, prog_11_method_4_code, 3, none)
def i8_add : MI := (⟨"RuleNet$Text", "add", "(I)V"⟩, prog_11_method_3_code, 2, none)
def i9_cut : MI := (⟨"RuleNet", "cut", "(I)I"⟩, prog_1_method_6_code, 3, (some FieldType.int))
def i9_pattern : MI := (⟨"RuleNet", "pattern", "(I)I"⟩, prog_1_method_7_code, 4, (some FieldType.int))
def i9_freeNumber : MI := (⟨"RuleNet", "freeNumber", "()I"⟩, prog_1_method_33_code, 2, (some FieldType.int))
def i7_read : MI := (⟨"RuleNet$Reader", "read", "(ZI)I"⟩, prog_10_method_2_code, 3, (some FieldType.int))
def i7_readNode : MI := (⟨"RuleNet$Reader", "readNode", "(I)Z"⟩, prog_10_method_7_code, 3, (some FieldType.boolean))
def i7_skipBlanks : MI := (⟨"RuleNet$Reader", "skipBlanks", "()V"⟩, prog_10_method_4_code, 1, none)
def i8_byteAt : MI := (⟨"RuleNet$Text", "byteAt", "(I)I"⟩, prog_11_method_2_code, 2, (some FieldType.int))
def i7_fail : MI := (⟨"RuleNet$Reader", "fail", "(II)Z"⟩, prog_10_method_3_code, 3, (some FieldType.boolean))
def i7_readHead : MI := (⟨"RuleNet$Reader", "readHead", "(II)Z"⟩, prog_10_method_9_code, 5, (some FieldType.boolean))
def i2_hasHead : MI := (⟨"RuleNet$Heads", "hasHead", "(I)Z"⟩, prog_4_method_3_code, 2, (some FieldType.boolean))
def i7_addNode : MI := (⟨"RuleNet$Reader", "addNode", "(II)I"⟩, prog_10_method_8_code, 4, (some FieldType.int))
def i5_add : MI := (⟨"RuleNet$Nodes", "add", "(I)I"⟩, prog_7_method_3_code, 3, (some FieldType.int))
def i7_readParts : MI := (⟨"RuleNet$Reader", "readParts", "(II)Z"⟩, prog_10_method_10_code, 4, (some FieldType.boolean))
def i7_readBehindPart : MI := (⟨"RuleNet$Reader", "readBehindPart", "(Z)Z"⟩, prog_10_method_11_code, 5, (some FieldType.boolean))
def i7_readNumberNode : MI := (⟨"RuleNet$Reader", "readNumberNode", "()Z"⟩, prog_10_method_13_code, 4, (some FieldType.boolean))
def i7_readNumber : MI := (⟨"RuleNet$Reader", "readNumber", "()Z"⟩, prog_10_method_14_code, 4, (some FieldType.boolean))
def i7_endOfDigits : MI := (⟨"RuleNet$Reader", "endOfDigits", "(I)I"⟩, prog_10_method_5_code, 3, (some FieldType.int))
def i7_takeDigits : MI := (⟨"RuleNet$Reader", "takeDigits", "(II)V"⟩, prog_10_method_6_code, 4, none)
def i7_readHole : MI := (⟨"RuleNet$Reader", "readHole", "()Z"⟩, prog_10_method_15_code, 3, (some FieldType.boolean))
def i7_readKind : MI := (⟨"RuleNet$Reader", "readKind", "(I)Z"⟩, prog_10_method_16_code, 4, (some FieldType.boolean))
def i7_readSpan : MI := (⟨"RuleNet$Reader", "readSpan", "(I)Z"⟩, prog_10_method_17_code, 2, (some FieldType.boolean))
def i7_passSign : MI := (⟨"RuleNet$Reader", "passSign", "(I)Z"⟩, prog_10_method_18_code, 2, (some FieldType.boolean))
def i7_readOver : MI := (⟨"RuleNet$Reader", "readOver", "(II)Z"⟩, prog_10_method_12_code, 3, (some FieldType.boolean))
def i6_take : MI := (⟨"RuleNet$Pattern", "take", "(LRuleNet$Nodes;ILRuleNet$Heads;)V"⟩, prog_8_method_2_code, 5, none)
def i5_replace : MI := (⟨"RuleNet$Nodes", "replace", "(IILRuleNet$Nodes;)V"⟩, prog_7_method_4_code, 7, none)
def i5_put : MI := (⟨"RuleNet$Nodes", "put", "(ILRuleNet$Nodes;I)V"⟩, prog_7_method_5_code, 4, none)
def i5_link : MI := (⟨"RuleNet$Nodes", "link", "(LRuleNet$Heads;)V"⟩, prog_7_method_6_code, 5, none)
def i2_partsOfNode : MI := (⟨"RuleNet$Heads", "partsOfNode", "(LRuleNet$Nodes;I)I"⟩, prog_4_method_9_code, 3, (some FieldType.int))
def i6_holesAheadOfFirst : MI := (⟨"RuleNet$Pattern", "holesAheadOfFirst", "(I)I"⟩, prog_8_method_4_code, 4, (some FieldType.int))
def i6_isWild : MI := (⟨"RuleNet$Pattern", "isWild", "(ILRuleNet$Heads;)Z"⟩, prog_8_method_3_code, 4, (some FieldType.boolean))
def i2_isLooseNode : MI := (⟨"RuleNet$Heads", "isLooseNode", "(LRuleNet$Nodes;I)Z"⟩, prog_4_method_10_code, 3, (some FieldType.boolean))
def i9_forgetAnswers : MI := (⟨"RuleNet", "forgetAnswers", "()V"⟩, prog_1_method_35_code, 1, none)
def i9_drop : MI := (⟨"RuleNet", "drop", "(I)I"⟩, prog_1_method_8_code, 3, (some FieldType.int))
def i9_patternOf : MI := (⟨"RuleNet", "patternOf", "(I)LRuleNet$Pattern;"⟩, prog_1_method_32_code, 2, (some (FieldType.object "RuleNet$Pattern")))
def i9_presentPatterns : MI := (⟨"RuleNet", "presentPatterns", "()I"⟩, prog_1_method_34_code, 3, (some FieldType.int))
def i9_tree : MI := (⟨"RuleNet", "tree", "()I"⟩, prog_1_method_9_code, 1, (some FieldType.int))
def i9_replaceInTree : MI := (⟨"RuleNet", "replaceInTree", "(II)I"⟩, prog_1_method_36_code, 4, (some FieldType.int))
def i9_change : MI := (⟨"RuleNet", "change", "(I)I"⟩, prog_1_method_10_code, 2, (some FieldType.int))
def i5_has : MI := (⟨"RuleNet$Nodes", "has", "(I)Z"⟩, prog_7_method_2_code, 2, (some FieldType.boolean))
def i9_place : MI := (⟨"RuleNet", "place", "()I"⟩, prog_1_method_11_code, 1, (some FieldType.int))
def i9_count : MI := (⟨"RuleNet", "count", "(I)I"⟩, prog_1_method_12_code, 2, (some FieldType.int))
def i4_patternsIn : MI := (⟨"RuleNet$Net", "patternsIn", "()I"⟩, prog_6_method_2_code, 3, (some FieldType.int))
def i6_isInNet : MI := (⟨"RuleNet$Pattern", "isInNet", "()Z"⟩, prog_8_method_5_code, 1, (some FieldType.boolean))
def i4_stepsIn : MI := (⟨"RuleNet$Net", "stepsIn", "()I"⟩, prog_6_method_4_code, 3, (some FieldType.int))
def i4_stepsOfOthers : MI := (⟨"RuleNet$Net", "stepsOfOthers", "(I)I"⟩, prog_6_method_5_code, 4, (some FieldType.int))
def i4_likeMarks : MI := (⟨"RuleNet$Net", "likeMarks", "(LRuleNet$Pattern;LRuleNet$Pattern;)I"⟩, prog_6_method_6_code, 5, (some FieldType.int))
def i12_min : MI := (⟨"java/lang/Math", "min", "(II)I"⟩, prog_14_method_69_code, 2, (some FieldType.int))
def i4_isLikeMark : MI := (⟨"RuleNet$Net", "isLikeMark", "(LRuleNet$Pattern;LRuleNet$Pattern;I)Z"⟩, prog_6_method_7_code, 4, (some FieldType.boolean))
def i4_marksIn : MI := (⟨"RuleNet$Net", "marksIn", "()I"⟩, prog_6_method_3_code, 3, (some FieldType.int))
def i9_told : MI := (⟨"RuleNet", "told", "(II)I"⟩, prog_1_method_13_code, 4, (some FieldType.int))
def i9_node : MI := (⟨"RuleNet", "node", "(II)J"⟩, prog_1_method_14_code, 3, (some FieldType.long))
def i2_kindOfNode : MI := (⟨"RuleNet$Heads", "kindOfNode", "(LRuleNet$Nodes;I)I"⟩, prog_4_method_8_code, 3, (some FieldType.int))
def i9_alike : MI := (⟨"RuleNet", "alike", "(II)I"⟩, prog_1_method_15_code, 3, (some FieldType.int))
def i5_areAlike : MI := (⟨"RuleNet$Nodes", "areAlike", "(II)Z"⟩, prog_7_method_8_code, 4, (some FieldType.boolean))
def i9_ask : MI := (⟨"RuleNet", "ask", "()I"⟩, prog_1_method_16_code, 1, (some FieldType.int))
def i9_askAll : MI := (⟨"RuleNet", "askAll", "()V"⟩, prog_1_method_37_code, 2, none)
def i3_run : MI := (⟨"RuleNet$Matcher", "run", "(LRuleNet$Pattern;ILRuleNet$Answer;Z)V"⟩, prog_5_method_2_code, 6, none)
def i0_clear : MI := (⟨"RuleNet$Answer", "clear", "()V"⟩, prog_2_method_2_code, 1, none)
def i3_chain : MI := (⟨"RuleNet$Matcher", "chain", "(III)I"⟩, prog_5_method_3_code, 4, (some FieldType.int))
def i3_walk : MI := (⟨"RuleNet$Matcher", "walk", "(II)Z"⟩, prog_5_method_5_code, 4, (some FieldType.boolean))
def i3_keepFilling : MI := (⟨"RuleNet$Matcher", "keepFilling", "()Z"⟩, prog_5_method_6_code, 1, (some FieldType.boolean))
def i0_keep : MI := (⟨"RuleNet$Answer", "keep", "([I)V"⟩, prog_2_method_6_code, 2, none)
def i0_holds : MI := (⟨"RuleNet$Answer", "holds", "([I)Z"⟩, prog_2_method_5_code, 4, (some FieldType.boolean))
def i0_nodeOf : MI := (⟨"RuleNet$Answer", "nodeOf", "(II)I"⟩, prog_2_method_4_code, 3, (some FieldType.int))
def i3_mayTry : MI := (⟨"RuleNet$Matcher", "mayTry", "()Z"⟩, prog_5_method_7_code, 1, (some FieldType.boolean))
def i3_walkParts : MI := (⟨"RuleNet$Matcher", "walkParts", "(II)Z"⟩, prog_5_method_9_code, 9, (some FieldType.boolean))
def i3_chainParts : MI := (⟨"RuleNet$Matcher", "chainParts", "(III)I"⟩, prog_5_method_10_code, 8, (some FieldType.int))
def i5_partOf : MI := (⟨"RuleNet$Nodes", "partOf", "(II)I"⟩, prog_7_method_7_code, 5, (some FieldType.int))
def i3_isNumber : MI := (⟨"RuleNet$Matcher", "isNumber", "(IJ)Z"⟩, prog_5_method_8_code, 4, (some FieldType.boolean))
def i3_walkHole : MI := (⟨"RuleNet$Matcher", "walkHole", "(II)Z"⟩, prog_5_method_11_code, 7, (some FieldType.boolean))
def i3_fitsHole : MI := (⟨"RuleNet$Matcher", "fitsHole", "(LRuleNet$Heads;LRuleNet$Nodes;ILRuleNet$Nodes;I)Z"⟩, prog_5_method_14_code, 5, (some FieldType.boolean))
def i5_spanHolds : MI := (⟨"RuleNet$Nodes", "spanHolds", "(IJ)Z"⟩, prog_7_method_9_code, 4, (some FieldType.boolean))
def i3_walkBelow : MI := (⟨"RuleNet$Matcher", "walkBelow", "(II)Z"⟩, prog_5_method_12_code, 7, (some FieldType.boolean))
def i3_walkFrom : MI := (⟨"RuleNet$Matcher", "walkFrom", "(IIII)Z"⟩, prog_5_method_4_code, 7, (some FieldType.boolean))
def i3_walkNowhere : MI := (⟨"RuleNet$Matcher", "walkNowhere", "(II)Z"⟩, prog_5_method_13_code, 6, (some FieldType.boolean))
def i9_addFitting : MI := (⟨"RuleNet", "addFitting", "(I)V"⟩, prog_1_method_38_code, 3, none)
def i9_fit : MI := (⟨"RuleNet", "fit", "(I)I"⟩, prog_1_method_17_code, 2, (some FieldType.int))
def i9_fillings : MI := (⟨"RuleNet", "fillings", "(I)I"⟩, prog_1_method_18_code, 3, (some FieldType.int))
def i9_filling : MI := (⟨"RuleNet", "filling", "(III)I"⟩, prog_1_method_19_code, 5, (some FieldType.int))
def i0_has : MI := (⟨"RuleNet$Answer", "has", "(I)Z"⟩, prog_2_method_3_code, 2, (some FieldType.boolean))
def i9_asked : MI := (⟨"RuleNet", "asked", "(II)I"⟩, prog_1_method_20_code, 4, (some FieldType.int))
def i9_at : MI := (⟨"RuleNet", "at", "(II)I"⟩, prog_1_method_21_code, 4, (some FieldType.int))
def i9_found : MI := (⟨"RuleNet", "found", "(II)I"⟩, prog_1_method_22_code, 4, (some FieldType.int))
def i1_nodeFound : MI := (⟨"RuleNet$Findings", "nodeFound", "(LRuleNet$Pattern;I)I"⟩, prog_3_method_2_code, 3, (some FieldType.int))
def i9_looks : MI := (⟨"RuleNet", "looks", "(I)I"⟩, prog_1_method_23_code, 2, (some FieldType.int))
def i4_looksAtTree : MI := (⟨"RuleNet$Net", "looksAtTree", "(Z)I"⟩, prog_6_method_8_code, 6, (some FieldType.int))
def i4_marksThatGo : MI := (⟨"RuleNet$Net", "marksThatGo", "(LRuleNet$Pattern;)I"⟩, prog_6_method_9_code, 6, (some FieldType.int))
def i4_goes : MI := (⟨"RuleNet$Net", "goes", "(LRuleNet$Pattern;II)Z"⟩, prog_6_method_10_code, 6, (some FieldType.boolean))
def i9_parts : MI := (⟨"RuleNet", "parts", "(II)I"⟩, prog_1_method_24_code, 5, (some FieldType.int))
def i9_shared : MI := (⟨"RuleNet", "shared", "(II)I"⟩, prog_1_method_25_code, 5, (some FieldType.int))
def i9_clash : MI := (⟨"RuleNet", "clash", "(II)I"⟩, prog_1_method_26_code, 5, (some FieldType.int))
def i6_hasNameTwice : MI := (⟨"RuleNet$Pattern", "hasNameTwice", "()Z"⟩, prog_8_method_6_code, 1, (some FieldType.boolean))
def i4_haveTreeInCommon : MI := (⟨"RuleNet$Net", "haveTreeInCommon", "(LRuleNet$Nodes;LRuleNet$Nodes;)Z"⟩, prog_6_method_11_code, 6, (some FieldType.boolean))
def i4_agree : MI := (⟨"RuleNet$Net", "agree", "(LRuleNet$Nodes;ILRuleNet$Nodes;I)Z"⟩, prog_6_method_12_code, 5, (some FieldType.boolean))
def i4_holesAgree : MI := (⟨"RuleNet$Net", "holesAgree", "(LRuleNet$Nodes;ILRuleNet$Nodes;I)Z"⟩, prog_6_method_13_code, 9, (some FieldType.boolean))
def i2_someHeadBelow : MI := (⟨"RuleNet$Heads", "someHeadBelow", "(I)Z"⟩, prog_4_method_7_code, 3, (some FieldType.boolean))
def i12_lmax : MI := (⟨"java/lang/Math", "max", "(JJ)J"⟩, prog_14_method_66_code, 4, (some FieldType.long))
def i4_holeTakes : MI := (⟨"RuleNet$Net", "holeTakes", "(LRuleNet$Nodes;ILRuleNet$Nodes;I)Z"⟩, prog_6_method_14_code, 6, (some FieldType.boolean))
def i9_print : MI := (⟨"RuleNet", "print", "(I)I"⟩, prog_1_method_27_code, 3, (some FieldType.int))
def i11_write : MI := (⟨"RuleNet$Printer", "write", "(LRuleNet$Nodes;ILRuleNet$Text;)I"⟩, prog_9_method_2_code, 5, (some FieldType.int))
def i11_writeNode : MI := (⟨"RuleNet$Printer", "writeNode", "(LRuleNet$Nodes;ILRuleNet$Text;)V"⟩, prog_9_method_3_code, 3, none)
def i8_addNumber : MI := (⟨"RuleNet$Text", "addNumber", "(J)V"⟩, prog_11_method_5_code, 8, none)
def i12_abs : MI := (⟨"java/lang/Math", "abs", "(J)J"⟩, prog_14_method_61_code, 2, (some FieldType.long))
def i11_writeHole : MI := (⟨"RuleNet$Printer", "writeHole", "(LRuleNet$Nodes;ILRuleNet$Text;)V"⟩, prog_9_method_4_code, 3, none)
def i11_writeBehind : MI := (⟨"RuleNet$Printer", "writeBehind", "(LRuleNet$Nodes;IILRuleNet$Text;)V"⟩, prog_9_method_5_code, 6, none)
def i9_printNode : MI := (⟨"RuleNet", "printNode", "(I)I"⟩, prog_1_method_28_code, 2, (some FieldType.int))
def i9_out : MI := (⟨"RuleNet", "out", "(I)I"⟩, prog_1_method_29_code, 2, (some FieldType.int))
def i9_back : MI := (⟨"RuleNet", "back", "()I"⟩, prog_1_method_30_code, 2, (some FieldType.int))
def i10_init : MI := (⟨"RuleNetModel", "<init>", "()V"⟩, prog_13_method_1_code, 1, none)
def i10_kind : MI := (⟨"RuleNetModel", "kind", "(I)I"⟩, prog_13_method_5_code, 2, (some FieldType.int))
def i10_noKind : MI := (⟨"RuleNetModel", "noKind", "(I)Z"⟩, prog_13_method_4_code, 2, (some FieldType.boolean))
def i10_in : MI := (⟨"RuleNetModel", "in", "(JJJ)Z"⟩, prog_13_method_3_code, 6, (some FieldType.boolean))
def i10_isUnder : MI := (⟨"RuleNetModel", "isUnder", "(II)I"⟩, prog_13_method_7_code, 3, (some FieldType.int))
def i10_lies : MI := (⟨"RuleNetModel", "lies", "(II)Z"⟩, prog_13_method_6_code, 4, (some FieldType.boolean))
def i10_head : MI := (⟨"RuleNetModel", "head", "(IIZ)I"⟩, prog_13_method_8_code, 4, (some FieldType.int))
def i10_feed : MI := (⟨"RuleNetModel", "feed", "(IIIII)I"⟩, prog_13_method_10_code, 6, (some FieldType.int))
def i10_four : MI := (⟨"RuleNetModel", "four", "(I)V"⟩, prog_13_method_9_code, 3, none)
def i10_cut : MI := (⟨"RuleNetModel", "cut", "(I)I"⟩, prog_13_method_11_code, 3, (some FieldType.int))
def i10_place : MI := (⟨"RuleNetModel", "place", "()I"⟩, prog_13_method_30_code, 1, (some FieldType.int))
def i10_pattern : MI := (⟨"RuleNetModel", "pattern", "(I)I"⟩, prog_13_method_31_code, 5, (some FieldType.int))
def i10_read : MI := (⟨"RuleNetModel", "read", "(ZI)V"⟩, prog_13_method_29_code, 3, none)
def i10_fine : MI := (⟨"RuleNetModel", "fine", "()Z"⟩, prog_13_method_13_code, 1, (some FieldType.boolean))
def i10_readNode : MI := (⟨"RuleNetModel", "readNode", "()V"⟩, prog_13_method_23_code, 5, none)
def i10_blanks : MI := (⟨"RuleNetModel", "blanks", "()V"⟩, prog_13_method_15_code, 1, none)
def i10_here : MI := (⟨"RuleNetModel", "here", "()I"⟩, prog_13_method_14_code, 1, (some FieldType.int))
def i10_readLetter : MI := (⟨"RuleNetModel", "readLetter", "(I)V"⟩, prog_13_method_24_code, 4, none)
def i10_wrong : MI := (⟨"RuleNetModel", "wrong", "(II)V"⟩, prog_13_method_12_code, 3, none)
def i10_newNode : MI := (⟨"RuleNetModel", "newNode", "(I)I"⟩, prog_13_method_20_code, 3, (some FieldType.int))
def i10_deeper : MI := (⟨"RuleNetModel", "deeper", "()V"⟩, prog_13_method_21_code, 1, none)
def i10_push : MI := (⟨"RuleNetModel", "push", "(I)V"⟩, prog_13_method_22_code, 2, none)
def i10_ended : MI := (⟨"RuleNetModel", "ended", "(I)V"⟩, prog_13_method_28_code, 7, none)
def i10_isDigit : MI := (⟨"RuleNetModel", "isDigit", "(I)Z"⟩, prog_13_method_16_code, 1, (some FieldType.boolean))
def i10_number : MI := (⟨"RuleNetModel", "number", "(Z)J"⟩, prog_13_method_19_code, 6, (some FieldType.long))
def i10_digitsFrom : MI := (⟨"RuleNetModel", "digitsFrom", "(I)I"⟩, prog_13_method_17_code, 3, (some FieldType.int))
def i10_digits : MI := (⟨"RuleNetModel", "digits", "(I)J"⟩, prog_13_method_18_code, 5, (some FieldType.long))
def i10_readHole : MI := (⟨"RuleNetModel", "readHole", "()V"⟩, prog_13_method_25_code, 7, none)
def i10_readSpan : MI := (⟨"RuleNetModel", "readSpan", "(I)V"⟩, prog_13_method_26_code, 2, none)
def i10_take : MI := (⟨"RuleNetModel", "take", "(I)V"⟩, prog_13_method_27_code, 2, none)
def i10_drop : MI := (⟨"RuleNetModel", "drop", "(I)I"⟩, prog_13_method_33_code, 2, (some FieldType.int))
def i10_noPattern : MI := (⟨"RuleNetModel", "noPattern", "(I)Z"⟩, prog_13_method_32_code, 2, (some FieldType.boolean))
def i10_tree : MI := (⟨"RuleNetModel", "tree", "()I"⟩, prog_13_method_35_code, 2, (some FieldType.int))
def i10_findUps : MI := (⟨"RuleNetModel", "findUps", "()V"⟩, prog_13_method_34_code, 3, none)
def i10_change : MI := (⟨"RuleNetModel", "change", "(I)I"⟩, prog_13_method_37_code, 5, (some FieldType.int))
def i10_noNode : MI := (⟨"RuleNetModel", "noNode", "(I)Z"⟩, prog_13_method_36_code, 2, (some FieldType.boolean))
def i10_count : MI := (⟨"RuleNetModel", "count", "(I)I"⟩, prog_13_method_41_code, 2, (some FieldType.int))
def i10_netSize : MI := (⟨"RuleNetModel", "netSize", "(Z)I"⟩, prog_13_method_42_code, 4, (some FieldType.int))
def i10_inNet : MI := (⟨"RuleNetModel", "inNet", "(I)Z"⟩, prog_13_method_38_code, 2, (some FieldType.boolean))
def i10_oddOf : MI := (⟨"RuleNetModel", "oddOf", "(I)I"⟩, prog_13_method_39_code, 4, (some FieldType.int))
def i10_steps : MI := (⟨"RuleNetModel", "steps", "()I"⟩, prog_13_method_72_code, 4, (some FieldType.int))
def i10_isNew : MI := (⟨"RuleNetModel", "isNew", "(II)Z"⟩, prog_13_method_71_code, 5, (some FieldType.boolean))
def i10_common : MI := (⟨"RuleNetModel", "common", "(II)I"⟩, prog_13_method_70_code, 4, (some FieldType.int))
def i10_areMarksLike : MI := (⟨"RuleNetModel", "areMarksLike", "(III)Z"⟩, prog_13_method_69_code, 7, (some FieldType.boolean))
def i10_againOf : MI := (⟨"RuleNetModel", "againOf", "(II)I"⟩, prog_13_method_68_code, 6, (some FieldType.int))
def i10_told : MI := (⟨"RuleNetModel", "told", "(II)I"⟩, prog_13_method_43_code, 3, (some FieldType.int))
def i10_namesOf : MI := (⟨"RuleNetModel", "namesOf", "(IZ)I"⟩, prog_13_method_40_code, 6, (some FieldType.int))
def i10_node : MI := (⟨"RuleNetModel", "node", "(II)J"⟩, prog_13_method_45_code, 3, (some FieldType.long))
def i10_kindOf : MI := (⟨"RuleNetModel", "kindOf", "(I)I"⟩, prog_13_method_44_code, 2, (some FieldType.int))
def i10_alike : MI := (⟨"RuleNetModel", "alike", "(II)I"⟩, prog_13_method_47_code, 3, (some FieldType.int))
def i10_areAlike : MI := (⟨"RuleNetModel", "areAlike", "(II)Z"⟩, prog_13_method_46_code, 5, (some FieldType.boolean))
def i10_ask : MI := (⟨"RuleNetModel", "ask", "()I"⟩, prog_13_method_60_code, 4, (some FieldType.int))
def i10_fitAll : MI := (⟨"RuleNetModel", "fitAll", "(II)V"⟩, prog_13_method_59_code, 5, none)
def i10_goal : MI := (⟨"RuleNetModel", "goal", "(III)I"⟩, prog_13_method_48_code, 4, (some FieldType.int))
def i10_keep : MI := (⟨"RuleNetModel", "keep", "()V"⟩, prog_13_method_58_code, 4, none)
def i10_doGoal : MI := (⟨"RuleNetModel", "doGoal", "()Z"⟩, prog_13_method_56_code, 5, (some FieldType.boolean))
def i10_choose : MI := (⟨"RuleNetModel", "choose", "(IIIII)V"⟩, prog_13_method_49_code, 7, none)
def i10_partsBy : MI := (⟨"RuleNetModel", "partsBy", "(IIII)I"⟩, prog_13_method_52_code, 9, (some FieldType.int))
def i10_order : MI := (⟨"RuleNetModel", "order", "(II)V"⟩, prog_13_method_50_code, 9, none)
def i10_partOf : MI := (⟨"RuleNetModel", "partOf", "(III)I"⟩, prog_13_method_53_code, 6, (some FieldType.int))
def i10_treePart : MI := (⟨"RuleNetModel", "treePart", "(II)I"⟩, prog_13_method_54_code, 5, (some FieldType.int))
def i10_holds : MI := (⟨"RuleNetModel", "holds", "(II)Z"⟩, prog_13_method_55_code, 4, (some FieldType.boolean))
def i10_goBack : MI := (⟨"RuleNetModel", "goBack", "()Z"⟩, prog_13_method_57_code, 5, (some FieldType.boolean))
def i10_orders : MI := (⟨"RuleNetModel", "orders", "(I)I"⟩, prog_13_method_51_code, 1, (some FieldType.int))
def i10_fit : MI := (⟨"RuleNetModel", "fit", "(I)I"⟩, prog_13_method_62_code, 5, (some FieldType.int))
def i10_isAhead : MI := (⟨"RuleNetModel", "isAhead", "(II)Z"⟩, prog_13_method_61_code, 3, (some FieldType.boolean))
def i10_fillings : MI := (⟨"RuleNetModel", "fillings", "(I)I"⟩, prog_13_method_63_code, 2, (some FieldType.int))
def i10_filling : MI := (⟨"RuleNetModel", "filling", "(III)I"⟩, prog_13_method_64_code, 4, (some FieldType.int))
def i10_asked : MI := (⟨"RuleNetModel", "asked", "(II)I"⟩, prog_13_method_65_code, 3, (some FieldType.int))
def i10_at : MI := (⟨"RuleNetModel", "at", "(II)I"⟩, prog_13_method_66_code, 3, (some FieldType.int))
def i10_found : MI := (⟨"RuleNetModel", "found", "(II)I"⟩, prog_13_method_67_code, 5, (some FieldType.int))
def i10_looks : MI := (⟨"RuleNetModel", "looks", "(I)I"⟩, prog_13_method_74_code, 6, (some FieldType.int))
def i10_goesWith : MI := (⟨"RuleNetModel", "goesWith", "(I)I"⟩, prog_13_method_73_code, 8, (some FieldType.int))
def i10_parts : MI := (⟨"RuleNetModel", "parts", "(II)I"⟩, prog_13_method_75_code, 4, (some FieldType.int))
def i10_shared : MI := (⟨"RuleNetModel", "shared", "(II)I"⟩, prog_13_method_76_code, 3, (some FieldType.int))
def i10_clash : MI := (⟨"RuleNetModel", "clash", "(II)I"⟩, prog_13_method_81_code, 4, (some FieldType.int))
def i10_meet : MI := (⟨"RuleNetModel", "meet", "(II)Z"⟩, prog_13_method_80_code, 9, (some FieldType.boolean))
def i10_canHole : MI := (⟨"RuleNetModel", "canHole", "(II)Z"⟩, prog_13_method_78_code, 8, (some FieldType.boolean))
def i10_hasHead : MI := (⟨"RuleNetModel", "hasHead", "(II)Z"⟩, prog_13_method_77_code, 5, (some FieldType.boolean))
def i10_canBe : MI := (⟨"RuleNetModel", "canBe", "(III)Z"⟩, prog_13_method_79_code, 6, (some FieldType.boolean))
def i10_print : MI := (⟨"RuleNetModel", "print", "(I)I"⟩, prog_13_method_87_code, 3, (some FieldType.int))
def i10_putHead : MI := (⟨"RuleNetModel", "putHead", "(I)V"⟩, prog_13_method_85_code, 2, none)
def i10_put : MI := (⟨"RuleNetModel", "put", "(I)V"⟩, prog_13_method_82_code, 2, none)
def i10_shutAll : MI := (⟨"RuleNetModel", "shutAll", "()V"⟩, prog_13_method_84_code, 2, none)
def i10_putNumber : MI := (⟨"RuleNetModel", "putNumber", "(J)V"⟩, prog_13_method_83_code, 7, none)
def i10_putHole : MI := (⟨"RuleNetModel", "putHole", "(I)V"⟩, prog_13_method_86_code, 2, none)
def i10_printNode : MI := (⟨"RuleNetModel", "printNode", "(I)I"⟩, prog_13_method_88_code, 3, (some FieldType.int))
def i10_out : MI := (⟨"RuleNetModel", "out", "(I)I"⟩, prog_13_method_89_code, 2, (some FieldType.int))
def i10_back : MI := (⟨"RuleNetModel", "back", "()I"⟩, prog_13_method_90_code, 3, (some FieldType.int))
def cpf0 : List (Nat × Nat × Int × Nat × Nat × Nat) := [(11, 0, 0, 3, 20, 268), (15, 0, 1, 0, 0, 269), (19, 0, 2, 0, 0, 272), (22, 0, 3, 1, 0, 275), (26, 0, 4, 1, 0, 278)]
def cpf1 : List (Nat × Nat × Int × Nat × Nat × Nat) := [(38, 5, 9, 0, 0, 228), (47, 0, 1, 0, 0, 270), (15, 1, 0, 3, 3, 407), (19, 1, 1, 3, 5, 408), (23, 1, 2, 3, 0, 409), (9, 1, 3, 3, 20, 410), (31, 1, 4, 0, 0, 411), (35, 1, 5, 0, 0, 412), (27, 1, 6, 4, 6, 413)]
def cpf2 : List (Nat × Nat × Int × Nat × Nat × Nat) := [(11, 2, 0, 3, 20, 128), (15, 2, 1, 3, 20, 129), (18, 2, 2, 3, 20, 130), (21, 2, 3, 3, 22, 132), (25, 2, 4, 0, 0, 133), (29, 2, 5, 0, 0, 135), (49, 5, 0, 3, 20, 184), (40, 5, 1, 3, 20, 189)]
def cpf3 : List (Nat × Nat × Int × Nat × Nat × Nat) := [(80, 5, 0, 3, 20, 182), (83, 5, 1, 3, 20, 187), (160, 5, 2, 3, 20, 195), (144, 5, 3, 3, 20, 200), (166, 5, 4, 3, 22, 205), (89, 5, 5, 3, 21, 209), (150, 5, 8, 3, 20, 224), (113, 0, 2, 0, 0, 273), (116, 0, 3, 1, 0, 276), (110, 0, 4, 1, 0, 279), (41, 6, 0, 3, 5, 293), (26, 3, 0, 3, 2, 370), (30, 3, 1, 3, 5, 371), (11, 3, 2, 3, 20, 372), (17, 3, 3, 3, 20, 373), (20, 3, 4, 3, 20, 374), (23, 3, 5, 3, 20, 375), (55, 3, 6, 0, 0, 376), (34, 3, 7, 4, 5, 377), (37, 3, 8, 4, 0, 378), (46, 3, 9, 1, 0, 379)]
def cpf4 : List (Nat × Nat × Int × Nat × Nat × Nat) := [(66, 5, 0, 3, 20, 183), (69, 5, 1, 3, 20, 188), (83, 5, 2, 3, 20, 194), (79, 5, 4, 3, 22, 204), (72, 5, 5, 3, 21, 210), (76, 5, 6, 3, 21, 215), (101, 5, 8, 3, 20, 222), (40, 5, 9, 0, 0, 229), (37, 6, 0, 3, 5, 294), (86, 6, 1, 3, 20, 297), (15, 4, 0, 3, 2, 436), (19, 4, 1, 3, 5, 437), (23, 4, 2, 3, 24, 438), (9, 4, 3, 3, 20, 439), (27, 4, 4, 0, 0, 440)]
def cpf5 : List (Nat × Nat × Int × Nat × Nat × Nat) := [(15, 5, 0, 3, 20, 179), (21, 5, 1, 3, 20, 185), (24, 5, 2, 3, 20, 192), (27, 5, 3, 3, 20, 197), (30, 5, 4, 3, 22, 202), (34, 5, 5, 3, 21, 207), (38, 5, 6, 3, 21, 213), (41, 5, 7, 3, 20, 217), (44, 5, 8, 3, 20, 220), (47, 5, 9, 0, 0, 225)]
def cpf6 : List (Nat × Nat × Int × Nat × Nat × Nat) := [(70, 5, 0, 3, 20, 181), (63, 5, 3, 3, 20, 198), (31, 5, 9, 0, 0, 226), (14, 6, 0, 3, 5, 292), (20, 6, 1, 3, 20, 296), (27, 6, 2, 3, 0, 298), (46, 6, 3, 1, 0, 300), (43, 6, 4, 0, 0, 302), (50, 6, 5, 0, 0, 304), (53, 6, 6, 0, 0, 306), (56, 6, 7, 0, 0, 308)]
def cpf7 : List (Nat × Nat × Int × Nat × Nat × Nat) := [(103, 2, 2, 3, 20, 131), (61, 8, 0, 3, 20, 162), (52, 8, 1, 0, 0, 165), (100, 5, 1, 3, 20, 190), (140, 5, 2, 3, 20, 196), (127, 5, 3, 3, 20, 201), (143, 5, 4, 3, 22, 206), (116, 5, 5, 3, 21, 211), (150, 5, 6, 3, 21, 216), (40, 5, 9, 0, 0, 227), (9, 7, 0, 3, 2, 335), (15, 7, 1, 3, 8, 336), (19, 7, 2, 3, 5, 337), (27, 7, 3, 1, 0, 338), (31, 7, 4, 0, 0, 339), (34, 7, 5, 0, 0, 340), (65, 7, 6, 2, 0, 341), (37, 7, 7, 0, 0, 342), (23, 7, 8, 0, 0, 343)]
def cpf8 : List (Nat × Nat × Int × Nat × Nat × Nat) := [(15, 8, 0, 3, 20, 161), (21, 8, 1, 0, 0, 164)]
def cpf9 : List (Nat × Nat × Int × Nat × Nat × Nat) := [(162, 2, 4, 0, 0, 134), (165, 2, 5, 0, 0, 136), (112, 8, 1, 0, 0, 166), (197, 5, 1, 3, 20, 191), (200, 5, 5, 3, 21, 212), (204, 5, 7, 3, 20, 219), (156, 5, 8, 3, 20, 223), (145, 5, 9, 0, 0, 230), (228, 0, 1, 0, 0, 271), (233, 0, 2, 0, 0, 274), (236, 0, 3, 1, 0, 277), (239, 0, 4, 1, 0, 280), (179, 6, 0, 3, 5, 295), (225, 6, 2, 3, 0, 299), (138, 6, 3, 1, 0, 301), (176, 6, 4, 0, 0, 303), (186, 6, 5, 0, 0, 305), (189, 6, 6, 0, 0, 307), (192, 6, 7, 0, 0, 309), (159, 7, 8, 0, 0, 344), (283, 1, 6, 4, 6, 414), (257, 4, 4, 0, 0, 441), (10, 9, 0, 3, 2, 453), (21, 9, 1, 3, 8, 454), (25, 9, 2, 3, 8, 455), (31, 9, 3, 3, 5, 456), (35, 9, 4, 3, 5, 457), (40, 9, 5, 3, 24, 458), (57, 9, 6, 3, 7, 459), (66, 9, 7, 3, 3, 460), (84, 9, 8, 3, 4, 461), (75, 9, 9, 3, 1, 462), (48, 9, 10, 3, 0, 463), (88, 9, 11, 3, 20, 464), (222, 9, 12, 0, 0, 465), (216, 9, 13, 1, 0, 466)]
def cpf10 : List (Nat × Nat × Int × Nat × Nat × Nat) := [(7, 10, 0, 0, 0, 1008), (13, 10, 1, 3, 20, 1009), (196, 10, 2, 0, 0, 1010), (17, 10, 3, 3, 20, 1011), (20, 10, 4, 3, 20, 1012), (23, 10, 5, 3, 22, 1013), (27, 10, 6, 3, 23, 1014), (199, 10, 7, 0, 0, 1015), (31, 10, 8, 3, 20, 1016), (34, 10, 9, 3, 20, 1017), (37, 10, 10, 3, 21, 1018), (41, 10, 11, 3, 20, 1019), (44, 10, 12, 3, 20, 1020), (47, 10, 13, 3, 22, 1021), (50, 10, 14, 3, 21, 1022), (53, 10, 15, 3, 21, 1023), (56, 10, 16, 3, 20, 1024), (236, 10, 17, 0, 0, 1025), (239, 10, 18, 0, 0, 1026), (276, 10, 19, 1, 0, 1027), (212, 10, 20, 0, 0, 1028), (206, 10, 21, 0, 0, 1029), (209, 10, 22, 0, 0, 1030), (59, 10, 23, 0, 0, 1031), (250, 10, 24, 0, 0, 1032), (62, 10, 25, 3, 20, 1033), (65, 10, 26, 3, 20, 1034), (253, 10, 27, 0, 0, 1035), (294, 10, 28, 1, 0, 1036), (68, 10, 29, 3, 22, 1037), (71, 10, 30, 3, 20, 1038), (74, 10, 31, 3, 20, 1039), (77, 10, 32, 3, 20, 1040), (80, 10, 33, 3, 20, 1041), (83, 10, 34, 3, 21, 1042), (86, 10, 35, 3, 20, 1043), (89, 10, 36, 3, 20, 1044), (92, 10, 37, 3, 22, 1045), (95, 10, 38, 3, 21, 1046), (98, 10, 39, 3, 21, 1047), (101, 10, 40, 3, 20, 1048), (302, 10, 41, 0, 0, 1049), (317, 10, 42, 0, 0, 1050), (104, 10, 43, 3, 20, 1051), (107, 10, 44, 3, 21, 1052), (110, 10, 45, 3, 20, 1053), (113, 10, 46, 3, 20, 1054), (309, 10, 47, 1, 0, 1055), (116, 10, 48, 3, 20, 1056), (119, 10, 49, 3, 20, 1057), (122, 10, 50, 3, 20, 1058), (356, 10, 51, 0, 0, 1059), (125, 10, 52, 3, 20, 1060), (128, 10, 53, 3, 20, 1061), (131, 10, 54, 3, 20, 1062), (134, 10, 55, 3, 20, 1063), (137, 10, 56, 3, 20, 1064), (140, 10, 57, 3, 20, 1065), (143, 10, 58, 3, 20, 1066), (146, 10, 59, 3, 20, 1067), (359, 10, 60, 0, 0, 1068), (379, 10, 61, 0, 0, 1069), (382, 10, 62, 1, 0, 1070), (402, 10, 63, 1, 0, 1071), (399, 10, 64, 0, 0, 1072), (149, 10, 65, 3, 20, 1073), (376, 10, 66, 0, 0, 1074), (152, 10, 67, 3, 20, 1075), (155, 10, 68, 3, 20, 1076), (158, 10, 69, 3, 20, 1077), (161, 10, 70, 3, 22, 1078), (164, 10, 71, 3, 22, 1079), (167, 10, 72, 3, 20, 1080), (437, 10, 73, 0, 0, 1081), (170, 10, 74, 3, 20, 1082), (173, 10, 75, 3, 23, 1083), (336, 10, 76, 0, 0, 1084), (176, 10, 77, 3, 20, 1085), (179, 10, 78, 3, 20, 1086), (462, 10, 79, 0, 0, 1087)]
def cpf11 : List (Nat × Nat × Int × Nat × Nat × Nat) := [(9, 8, 1, 0, 0, 163), (35, 5, 0, 3, 20, 180), (42, 5, 1, 3, 20, 186), (59, 5, 2, 3, 20, 193), (56, 5, 3, 3, 20, 199), (62, 5, 4, 3, 22, 203), (45, 5, 5, 3, 21, 208), (66, 5, 6, 3, 21, 214), (69, 5, 7, 3, 20, 218), (21, 5, 8, 3, 20, 221)]
def cpf12 : List (Nat × Nat × Int × Nat × Nat × Nat) := []
def cpf13 : List (Nat × Nat × Int × Nat × Nat × Nat) := []
def cpfL : Nat → List (Nat × Nat × Int × Nat × Nat × Nat) := fun t => match t with
  | 0 => cpf0
  | 1 => cpf1
  | 2 => cpf2
  | 3 => cpf3
  | 4 => cpf4
  | 5 => cpf5
  | 6 => cpf6
  | 7 => cpf7
  | 8 => cpf8
  | 9 => cpf9
  | 10 => cpf10
  | 11 => cpf11
  | 12 => cpf12
  | _ => cpf13
/-- a field reference of an owner: class, field, kind, type, the place of its word -/
def cpf (own idx : Nat) : Option (Nat × Int × Nat × Nat × Nat) := (cpfL own).lookup idx
/-- a method reference: kind (0 virtual, 1 static, 2 a constructor, 3 a nest mate's constructor), parts with the receiver, kind of answer, receiver's class, the method, places of words: link, code, instance or static, selects, initialized -/
def cpm0 : List (Nat × Nat × Nat × Nat × Nat × MI × Nat × Nat × Nat × Nat × Nat) := [(33, 0, 2, 1, 0, i0_holds, 797, 800, 798, 799, 106),
  (29, 0, 3, 1, 0, i0_nodeOf, 801, 804, 802, 803, 106)]
def cpm1 : List (Nat × Nat × Nat × Nat × Nat × MI × Nat × Nat × Nat × Nat × Nat) := [(41, 0, 5, 0, 3, i3_run, 898, 776, 774, 775, 108)]
def cpm2 : List (Nat × Nat × Nat × Nat × Nat × MI × Nat × Nat × Nat × Nat × Nat) := [(32, 0, 2, 1, 2, i2_hasKind, 516, 503, 501, 502, 101),
  (45, 0, 2, 1, 2, i2_hasHead, 654, 579, 577, 578, 101),
  (36, 0, 3, 1, 2, i2_isBelow, 953, 515, 513, 514, 101)]
def cpm3 : List (Nat × Nat × Nat × Nat × Nat × MI × Nat × Nat × Nat × Nat × Nat) := [(50, 0, 1, 0, 0, i0_clear, 777, 780, 778, 779, 106),
  (59, 0, 4, 1, 3, i3_chain, 781, 784, 783, 27, 108),
  (63, 0, 3, 1, 3, i3_walk, 785, 788, 787, 28, 108),
  (67, 0, 1, 1, 3, i3_keepFilling, 789, 792, 791, 29, 108),
  (106, 0, 2, 0, 0, i0_keep, 793, 796, 794, 795, 106),
  (71, 0, 1, 1, 3, i3_mayTry, 808, 811, 810, 30, 108),
  (74, 0, 2, 1, 5, i5_has, 812, 700, 698, 699, 104),
  (86, 0, 3, 1, 3, i3_walkParts, 813, 816, 815, 31, 108),
  (119, 0, 3, 1, 2, i2_partsOfNode, 817, 653, 651, 652, 101),
  (123, 0, 3, 1, 2, i2_isLooseNode, 818, 666, 664, 665, 101),
  (130, 0, 4, 1, 3, i3_chainParts, 821, 824, 823, 32, 108),
  (136, 0, 3, 1, 5, i5_partOf, 827, 830, 828, 829, 104),
  (93, 0, 3, 1, 3, i3_isNumber, 831, 834, 833, 33, 108),
  (97, 0, 3, 1, 3, i3_walkHole, 835, 838, 837, 34, 108),
  (140, 1, 5, 1, 0, i3_fitsHole, 839, 841, 840, 0, 108),
  (157, 0, 3, 1, 2, i2_kindOfNode, 842, 754, 752, 753, 101),
  (163, 0, 3, 1, 2, i2_isBelow, 843, 515, 513, 514, 101),
  (170, 0, 3, 1, 5, i5_spanHolds, 844, 847, 845, 846, 104),
  (147, 0, 3, 1, 5, i5_areAlike, 848, 763, 761, 762, 104),
  (100, 0, 3, 1, 3, i3_walkBelow, 849, 852, 851, 35, 108),
  (153, 0, 5, 1, 3, i3_walkFrom, 853, 856, 855, 36, 108),
  (103, 0, 3, 1, 3, i3_walkNowhere, 857, 860, 859, 37, 108)]
def cpm4 : List (Nat × Nat × Nat × Nat × Nat × MI × Nat × Nat × Nat × Nat × Nat) := [(31, 0, 1, 1, 6, i6_isInNet, 713, 716, 714, 715, 105),
  (45, 0, 2, 1, 4, i4_stepsOfOthers, 721, 724, 723, 24, 110),
  (49, 0, 3, 1, 4, i4_likeMarks, 725, 728, 726, 727, 110),
  (59, 1, 2, 1, 0, i12_min, 729, 731, 730, 0, 103),
  (62, 0, 4, 1, 4, i4_isLikeMark, 732, 735, 734, 25, 110),
  (53, 1, 2, 1, 0, i12_max, 736, 160, 159, 0, 103),
  (89, 0, 2, 1, 4, i4_marksThatGo, 907, 910, 908, 909, 110),
  (93, 0, 2, 1, 5, i5_has, 911, 700, 698, 699, 104),
  (97, 0, 4, 1, 4, i4_goes, 912, 915, 914, 39, 110),
  (104, 1, 5, 1, 0, i3_fitsHole, 916, 841, 840, 0, 108),
  (110, 0, 3, 1, 5, i5_areAlike, 917, 763, 761, 762, 104),
  (114, 0, 5, 1, 4, i4_agree, 940, 943, 942, 40, 110),
  (118, 0, 5, 1, 4, i4_holesAgree, 944, 947, 946, 41, 110),
  (124, 0, 3, 1, 2, i2_isBelow, 948, 515, 513, 514, 101),
  (129, 0, 2, 1, 2, i2_someHeadBelow, 949, 952, 950, 951, 101),
  (132, 1, 2, 2, 0, i12_lmax, 954, 956, 955, 0, 103),
  (135, 0, 3, 1, 5, i5_spanHolds, 957, 847, 845, 846, 104),
  (121, 0, 5, 1, 4, i4_holeTakes, 958, 961, 960, 42, 110)]
def cpm5 : List (Nat × Nat × Nat × Nat × Nat × MI × Nat × Nat × Nat × Nat × Nat) := [(9, 1, 2, 1, 0, i12_max, 178, 160, 159, 0, 103),
  (51, 0, 4, 0, 5, i5_put, 642, 645, 644, 17, 104),
  (55, 0, 3, 1, 2, i2_partsOfNode, 650, 653, 651, 652, 101),
  (61, 0, 2, 1, 5, i5_has, 764, 700, 698, 699, 104)]
def cpm6 : List (Nat × Nat × Nat × Nat × Nat × MI × Nat × Nat × Nat × Nat × Nat) := [(11, 2, 2, 0, 5, i5_init, 261, 176, 175, 0, 104),
  (26, 3, 1, 0, 0, i0_init, 264, 266, 265, 0, 106),
  (35, 0, 4, 0, 5, i5_replace, 638, 641, 639, 640, 104),
  (39, 0, 2, 0, 5, i5_link, 646, 649, 647, 648, 104),
  (59, 0, 2, 1, 6, i6_holesAheadOfFirst, 655, 658, 657, 18, 105),
  (66, 0, 3, 1, 6, i6_isWild, 659, 662, 661, 19, 105),
  (73, 0, 3, 1, 2, i2_isLooseNode, 663, 666, 664, 665, 101)]
def cpm7 : List (Nat × Nat × Nat × Nat × Nat × MI × Nat × Nat × Nat × Nat × Nat) := [(45, 0, 2, 1, 7, i7_readNode, 556, 559, 558, 1, 107),
  (49, 0, 1, 0, 7, i7_skipBlanks, 560, 563, 562, 2, 107),
  (71, 0, 2, 1, 8, i8_byteAt, 564, 567, 565, 566, 102),
  (57, 0, 3, 1, 7, i7_fail, 568, 571, 570, 3, 107),
  (75, 0, 3, 1, 7, i7_readHead, 572, 575, 574, 4, 107),
  (91, 0, 2, 1, 2, i2_hasHead, 576, 579, 577, 578, 101),
  (96, 0, 3, 1, 7, i7_addNode, 580, 583, 582, 5, 107),
  (88, 0, 2, 1, 5, i5_add, 584, 587, 585, 586, 104),
  (106, 0, 3, 1, 7, i7_readParts, 588, 591, 590, 6, 107),
  (109, 0, 2, 1, 7, i7_readBehindPart, 592, 595, 594, 7, 107),
  (78, 0, 1, 1, 7, i7_readNumberNode, 596, 599, 598, 8, 107),
  (113, 0, 1, 1, 7, i7_readNumber, 600, 603, 602, 9, 107),
  (120, 0, 2, 1, 7, i7_endOfDigits, 604, 607, 606, 10, 107),
  (123, 0, 3, 0, 7, i7_takeDigits, 608, 611, 610, 11, 107),
  (82, 0, 1, 1, 7, i7_readHole, 613, 616, 615, 12, 107),
  (130, 0, 2, 1, 7, i7_readKind, 617, 620, 619, 13, 107),
  (136, 0, 2, 1, 2, i2_hasKind, 621, 503, 501, 502, 101),
  (133, 0, 2, 1, 7, i7_readSpan, 622, 625, 624, 14, 107),
  (147, 0, 2, 1, 7, i7_passSign, 626, 629, 628, 15, 107),
  (85, 0, 3, 1, 7, i7_readOver, 630, 633, 632, 16, 107)]
def cpm8 : List (Nat × Nat × Nat × Nat × Nat × MI × Nat × Nat × Nat × Nat × Nat) := [(9, 1, 2, 1, 0, i12_max, 158, 160, 159, 0, 103),
  (25, 0, 2, 0, 8, i8_add, 536, 539, 537, 538, 102),
  (29, 1, 1, 2, 0, i12_abs, 978, 980, 979, 0, 103)]
def cpm9 : List (Nat × Nat × Nat × Nat × Nat × MI × Nat × Nat × Nat × Nat × Nat) := [(9, 2, 1, 0, 2, i2_init, 124, 126, 125, 0, 101),
  (18, 2, 2, 0, 8, i8_init, 154, 156, 155, 0, 102),
  (30, 2, 2, 0, 5, i5_init, 174, 176, 175, 0, 104),
  (44, 3, 1, 0, 6, i6_init, 256, 258, 257, 0, 105),
  (47, 3, 1, 0, 0, i0_init, 328, 266, 265, 0, 106),
  (54, 2, 4, 0, 7, i7_init, 331, 333, 332, 0, 107),
  (63, 2, 4, 0, 3, i3_init, 366, 368, 367, 0, 108),
  (72, 2, 4, 0, 1, i1_init, 403, 405, 404, 0, 109),
  (81, 2, 4, 0, 4, i4_init, 432, 434, 433, 0, 110),
  (92, 0, 2, 1, 2, i2_hasKind, 500, 503, 501, 502, 101),
  (96, 0, 2, 1, 2, i2_addKind, 504, 507, 505, 506, 101),
  (100, 0, 3, 1, 2, i2_isBelow, 512, 515, 513, 514, 101),
  (104, 1, 1, 1, 0, i9_asInt, 517, 519, 518, 0, 100),
  (108, 0, 4, 1, 2, i2_addHead, 524, 527, 525, 526, 101),
  (116, 0, 2, 0, 8, i8_addFour, 532, 535, 533, 534, 102),
  (119, 0, 1, 1, 9, i9_freeNumber, 548, 551, 550, 0, 100),
  (123, 0, 3, 1, 7, i7_read, 552, 555, 553, 554, 107),
  (127, 0, 4, 0, 6, i6_take, 634, 637, 635, 636, 105),
  (131, 0, 1, 0, 9, i9_forgetAnswers, 667, 670, 669, 20, 100),
  (134, 0, 2, 9, 9, i9_patternOf, 675, 678, 677, 21, 100),
  (142, 0, 1, 1, 9, i9_presentPatterns, 679, 682, 681, 22, 100),
  (148, 0, 3, 1, 9, i9_replaceInTree, 687, 690, 689, 23, 100),
  (287, 0, 4, 0, 5, i5_replace, 691, 641, 639, 640, 104),
  (291, 0, 2, 0, 5, i5_link, 692, 649, 647, 648, 104),
  (152, 0, 2, 1, 5, i5_has, 697, 700, 698, 699, 104),
  (167, 0, 1, 1, 4, i4_patternsIn, 709, 712, 710, 711, 110),
  (170, 0, 1, 1, 4, i4_stepsIn, 717, 720, 718, 719, 110),
  (173, 0, 1, 1, 4, i4_marksIn, 737, 740, 738, 739, 110),
  (182, 0, 1, 1, 6, i6_isInNet, 745, 716, 714, 715, 105),
  (207, 0, 3, 1, 2, i2_kindOfNode, 751, 754, 752, 753, 101),
  (213, 0, 3, 1, 5, i5_areAlike, 760, 763, 761, 762, 104),
  (219, 0, 1, 0, 9, i9_askAll, 769, 772, 771, 26, 100),
  (242, 0, 5, 0, 3, i3_run, 773, 776, 774, 775, 108),
  (295, 0, 2, 0, 9, i9_addFitting, 861, 864, 863, 38, 100),
  (229, 0, 2, 1, 0, i0_has, 877, 880, 878, 879, 106),
  (230, 0, 3, 1, 0, i0_nodeOf, 881, 804, 802, 803, 106),
  (246, 0, 3, 1, 1, i1_nodeFound, 894, 897, 895, 896, 109),
  (250, 0, 2, 1, 4, i4_looksAtTree, 903, 906, 904, 905, 110),
  (253, 0, 2, 1, 4, i4_marksThatGo, 922, 910, 908, 909, 110),
  (260, 0, 3, 1, 4, i4_likeMarks, 927, 728, 726, 727, 110),
  (264, 0, 1, 1, 6, i6_hasNameTwice, 932, 935, 933, 934, 105),
  (267, 0, 3, 1, 4, i4_haveTreeInCommon, 936, 939, 937, 938, 110),
  (271, 1, 3, 1, 0, i11_write, 966, 968, 967, 0, 113),
  (277, 0, 2, 1, 8, i8_byteAt, 996, 567, 565, 566, 102),
  (280, 0, 2, 0, 8, i8_add, 1001, 539, 537, 538, 102)]
def cpm10 : List (Nat × Nat × Nat × Nat × Nat × MI × Nat × Nat × Nat × Nat × Nat) := [(186, 0, 2, 1, 10, i10_noKind, 1254, 1257, 1256, 43, 111),
  (182, 1, 3, 1, 0, i10_in, 1258, 1260, 1259, 0, 111),
  (190, 0, 3, 1, 10, i10_lies, 1265, 1268, 1267, 44, 111),
  (202, 0, 2, 0, 10, i10_four, 1278, 1281, 1280, 45, 111),
  (305, 0, 3, 0, 10, i10_read, 1295, 1298, 1297, 46, 111),
  (242, 0, 1, 1, 10, i10_fine, 1299, 1302, 1301, 47, 111),
  (297, 0, 1, 0, 10, i10_readNode, 1303, 1306, 1305, 48, 111),
  (256, 0, 1, 0, 10, i10_blanks, 1307, 1310, 1309, 49, 111),
  (224, 0, 1, 1, 10, i10_here, 1311, 1314, 1313, 50, 111),
  (263, 0, 2, 0, 10, i10_readLetter, 1317, 1320, 1319, 51, 111),
  (232, 0, 3, 0, 10, i10_wrong, 1321, 1324, 1323, 52, 111),
  (270, 0, 2, 1, 10, i10_newNode, 1325, 1328, 1327, 53, 111),
  (283, 0, 1, 0, 10, i10_deeper, 1329, 1332, 1331, 54, 111),
  (286, 0, 2, 0, 10, i10_push, 1333, 1336, 1335, 55, 111),
  (273, 0, 2, 0, 10, i10_ended, 1337, 1340, 1339, 56, 111),
  (219, 1, 1, 1, 0, i10_isDigit, 1341, 1343, 1342, 0, 111),
  (266, 0, 2, 2, 10, i10_number, 1346, 1349, 1348, 57, 111),
  (228, 0, 2, 1, 10, i10_digitsFrom, 1350, 1353, 1352, 58, 111),
  (246, 0, 2, 2, 10, i10_digits, 1354, 1357, 1356, 59, 111),
  (280, 0, 1, 0, 10, i10_readHole, 1359, 1362, 1361, 60, 111),
  (289, 0, 2, 0, 10, i10_readSpan, 1363, 1366, 1365, 61, 111),
  (291, 0, 2, 0, 10, i10_take, 1367, 1370, 1369, 62, 111),
  (314, 0, 2, 1, 10, i10_noPattern, 1375, 1378, 1377, 63, 111),
  (320, 0, 1, 0, 10, i10_findUps, 1384, 1387, 1386, 64, 111),
  (323, 0, 2, 1, 10, i10_noNode, 1392, 1395, 1394, 65, 111),
  (329, 0, 2, 1, 10, i10_netSize, 1400, 1403, 1402, 66, 111),
  (339, 0, 2, 1, 10, i10_inNet, 1404, 1407, 1406, 67, 111),
  (326, 0, 2, 1, 10, i10_oddOf, 1408, 1411, 1410, 68, 111),
  (333, 0, 1, 1, 10, i10_steps, 1412, 1415, 1414, 69, 111),
  (434, 0, 3, 1, 10, i10_isNew, 1416, 1419, 1418, 70, 111),
  (431, 0, 3, 1, 10, i10_common, 1420, 1423, 1422, 71, 111),
  (427, 0, 4, 1, 10, i10_areMarksLike, 1424, 1427, 1426, 72, 111),
  (424, 0, 3, 1, 10, i10_againOf, 1428, 1431, 1430, 73, 111),
  (342, 0, 3, 1, 10, i10_namesOf, 1436, 1439, 1438, 74, 111),
  (348, 0, 2, 1, 10, i10_kindOf, 1445, 1448, 1447, 75, 111),
  (353, 0, 3, 1, 10, i10_areAlike, 1454, 1457, 1456, 76, 111),
  (414, 0, 3, 0, 10, i10_fitAll, 1462, 1465, 1464, 77, 111),
  (373, 0, 4, 1, 10, i10_goal, 1466, 1469, 1468, 78, 111),
  (405, 0, 1, 0, 10, i10_keep, 1470, 1473, 1472, 79, 111),
  (408, 0, 1, 1, 10, i10_doGoal, 1474, 1477, 1476, 80, 111),
  (385, 0, 6, 0, 10, i10_choose, 1478, 1481, 1480, 81, 111),
  (389, 0, 5, 1, 10, i10_partsBy, 1482, 1485, 1484, 82, 111),
  (362, 0, 3, 0, 10, i10_order, 1486, 1489, 1488, 83, 111),
  (365, 0, 4, 1, 10, i10_partOf, 1490, 1493, 1492, 84, 111),
  (369, 0, 3, 1, 10, i10_treePart, 1494, 1497, 1496, 85, 111),
  (393, 0, 3, 1, 10, i10_holds, 1498, 1501, 1500, 86, 111),
  (411, 0, 1, 1, 10, i10_goBack, 1502, 1505, 1504, 87, 111),
  (396, 1, 1, 1, 0, i10_orders, 1506, 1508, 1507, 0, 111),
  (417, 0, 3, 1, 10, i10_isAhead, 1513, 1516, 1515, 88, 111),
  (440, 0, 2, 1, 10, i10_goesWith, 1543, 1546, 1545, 89, 111),
  (456, 0, 3, 1, 10, i10_meet, 1559, 1562, 1561, 90, 111),
  (450, 0, 3, 1, 10, i10_canHole, 1563, 1566, 1565, 91, 111),
  (447, 0, 3, 1, 10, i10_hasHead, 1569, 1572, 1571, 92, 111),
  (453, 0, 4, 1, 10, i10_canBe, 1573, 1576, 1575, 93, 111),
  (472, 0, 2, 0, 10, i10_putHead, 1581, 1584, 1583, 94, 111),
  (459, 0, 2, 0, 10, i10_put, 1585, 1588, 1587, 95, 111),
  (465, 0, 1, 0, 10, i10_shutAll, 1589, 1592, 1591, 96, 111),
  (468, 0, 2, 0, 10, i10_putNumber, 1593, 1596, 1595, 97, 111),
  (475, 0, 2, 0, 10, i10_putHole, 1597, 1600, 1599, 98, 111)]
def cpm11 : List (Nat × Nat × Nat × Nat × Nat × MI × Nat × Nat × Nat × Nat × Nat) := [(15, 0, 2, 1, 5, i5_has, 969, 700, 698, 699, 104),
  (25, 1, 3, 0, 0, i11_writeNode, 970, 972, 971, 0, 113),
  (38, 0, 2, 0, 8, i8_add, 973, 539, 537, 538, 102),
  (49, 0, 2, 0, 8, i8_addNumber, 974, 977, 975, 976, 102),
  (53, 1, 3, 0, 0, i11_writeHole, 982, 984, 983, 0, 113),
  (31, 1, 4, 0, 0, i11_writeBehind, 985, 987, 986, 0, 113)]
def cpm12 : List (Nat × Nat × Nat × Nat × Nat × MI × Nat × Nat × Nat × Nat × Nat) := []
def cpm13 : List (Nat × Nat × Nat × Nat × Nat × MI × Nat × Nat × Nat × Nat × Nat) := [(9, 2, 1, 0, 9, i9_init, 116, 118, 117, 0, 100),
  (13, 0, 2, 1, 9, i9_kind, 496, 499, 497, 498, 100),
  (18, 0, 3, 1, 9, i9_isUnder, 508, 511, 509, 510, 100),
  (23, 0, 4, 1, 9, i9_head, 520, 523, 521, 522, 100),
  (28, 0, 6, 1, 9, i9_feed, 528, 531, 529, 530, 100),
  (33, 0, 2, 1, 9, i9_cut, 540, 543, 541, 542, 100),
  (37, 0, 2, 1, 9, i9_pattern, 544, 547, 545, 546, 100),
  (41, 0, 2, 1, 9, i9_drop, 671, 674, 672, 673, 100),
  (45, 0, 1, 1, 9, i9_tree, 683, 686, 684, 685, 100),
  (50, 0, 2, 1, 9, i9_change, 693, 696, 694, 695, 100),
  (54, 0, 1, 1, 9, i9_place, 701, 704, 702, 703, 100),
  (58, 0, 2, 1, 9, i9_count, 705, 708, 706, 707, 100),
  (62, 0, 3, 1, 9, i9_told, 741, 744, 742, 743, 100),
  (66, 0, 3, 2, 9, i9_node, 746, 749, 747, 748, 100),
  (71, 0, 3, 1, 9, i9_alike, 756, 759, 757, 758, 100),
  (75, 0, 1, 1, 9, i9_ask, 765, 768, 766, 767, 100),
  (79, 0, 2, 1, 9, i9_fit, 865, 868, 866, 867, 100),
  (83, 0, 2, 1, 9, i9_fillings, 869, 872, 870, 871, 100),
  (87, 0, 4, 1, 9, i9_filling, 873, 876, 874, 875, 100),
  (92, 0, 3, 1, 9, i9_asked, 882, 885, 883, 884, 100),
  (96, 0, 3, 1, 9, i9_at, 886, 889, 887, 888, 100),
  (100, 0, 3, 1, 9, i9_found, 890, 893, 891, 892, 100),
  (104, 0, 2, 1, 9, i9_looks, 899, 902, 900, 901, 100),
  (108, 0, 3, 1, 9, i9_parts, 918, 921, 919, 920, 100),
  (112, 0, 3, 1, 9, i9_shared, 923, 926, 924, 925, 100),
  (116, 0, 3, 1, 9, i9_clash, 928, 931, 929, 930, 100),
  (120, 0, 2, 1, 9, i9_print, 962, 965, 963, 964, 100),
  (124, 0, 2, 1, 9, i9_printNode, 988, 991, 989, 990, 100),
  (128, 0, 2, 1, 9, i9_out, 992, 995, 993, 994, 100),
  (132, 0, 1, 1, 9, i9_back, 997, 1000, 998, 999, 100),
  (12, 2, 1, 0, 10, i10_init, 1004, 1006, 1005, 0, 111),
  (17, 0, 2, 1, 10, i10_kind, 1250, 1253, 1251, 1252, 111),
  (22, 0, 3, 1, 10, i10_isUnder, 1261, 1264, 1262, 1263, 111),
  (27, 0, 4, 1, 10, i10_head, 1269, 1272, 1270, 1271, 111),
  (32, 0, 6, 1, 10, i10_feed, 1274, 1277, 1275, 1276, 111),
  (36, 0, 2, 1, 10, i10_cut, 1282, 1285, 1283, 1284, 111),
  (57, 0, 1, 1, 10, i10_place, 1286, 1289, 1287, 1288, 111),
  (40, 0, 2, 1, 10, i10_pattern, 1290, 1293, 1291, 1292, 111),
  (44, 0, 2, 1, 10, i10_drop, 1371, 1374, 1372, 1373, 111),
  (49, 0, 1, 1, 10, i10_tree, 1380, 1383, 1381, 1382, 111),
  (53, 0, 2, 1, 10, i10_change, 1388, 1391, 1389, 1390, 111),
  (61, 0, 2, 1, 10, i10_count, 1396, 1399, 1397, 1398, 111),
  (65, 0, 3, 1, 10, i10_told, 1432, 1435, 1433, 1434, 111),
  (70, 0, 3, 2, 10, i10_node, 1440, 1443, 1441, 1442, 111),
  (74, 0, 3, 1, 10, i10_alike, 1450, 1453, 1451, 1452, 111),
  (78, 0, 1, 1, 10, i10_ask, 1458, 1461, 1459, 1460, 111),
  (82, 0, 2, 1, 10, i10_fit, 1509, 1512, 1510, 1511, 111),
  (86, 0, 2, 1, 10, i10_fillings, 1517, 1520, 1518, 1519, 111),
  (91, 0, 4, 1, 10, i10_filling, 1521, 1524, 1522, 1523, 111),
  (95, 0, 3, 1, 10, i10_asked, 1526, 1529, 1527, 1528, 111),
  (99, 0, 3, 1, 10, i10_at, 1531, 1534, 1532, 1533, 111),
  (103, 0, 3, 1, 10, i10_found, 1535, 1538, 1536, 1537, 111),
  (107, 0, 2, 1, 10, i10_looks, 1539, 1542, 1540, 1541, 111),
  (111, 0, 3, 1, 10, i10_parts, 1547, 1550, 1548, 1549, 111),
  (115, 0, 3, 1, 10, i10_shared, 1551, 1554, 1552, 1553, 111),
  (119, 0, 3, 1, 10, i10_clash, 1555, 1558, 1556, 1557, 111),
  (123, 0, 2, 1, 10, i10_print, 1577, 1580, 1578, 1579, 111),
  (127, 0, 2, 1, 10, i10_printNode, 1601, 1604, 1602, 1603, 111),
  (131, 0, 2, 1, 10, i10_out, 1605, 1608, 1606, 1607, 111),
  (135, 0, 1, 1, 10, i10_back, 1609, 1612, 1610, 1611, 111)]
def cpmL : Nat → List (Nat × Nat × Nat × Nat × Nat × MI × Nat × Nat × Nat × Nat × Nat) := fun t => match t with
  | 0 => cpm0
  | 1 => cpm1
  | 2 => cpm2
  | 3 => cpm3
  | 4 => cpm4
  | 5 => cpm5
  | 6 => cpm6
  | 7 => cpm7
  | 8 => cpm8
  | 9 => cpm9
  | 10 => cpm10
  | 11 => cpm11
  | 12 => cpm12
  | _ => cpm13
def cpm (own idx : Nat) : Option (Nat × Nat × Nat × Nat × MI × Nat × Nat × Nat × Nat × Nat) := (cpmL own).lookup idx
/-- Object.<init>: owner * 1000 + entry, place -/
def cpoL : List (Nat × Nat) := [(3, 267), (1003, 406), (2003, 127), (3005, 369), (4003, 435), (5003, 177), (6003, 259), (7003, 334), (8003, 157), (9001, 119), (10001, 1007)]
/-- arraycopy -/
def cpaL : List (Nat × Nat) := [(37, 805)]
/-- classes: entry, class, places: link, instantiable, initialized -/
def cpcL : List (Nat × Nat × Nat × Nat × Nat) := [(6009, 5, 260, 173, 104), (6024, 0, 262, 263, 106), (9007, 2, 122, 123, 101), (9016, 8, 152, 153, 102), (9028, 5, 172, 173, 104), (9038, 6, 253, 255, 105), (9045, 0, 327, 263, 106), (9052, 7, 329, 330, 107), (9061, 3, 364, 365, 108), (9070, 1, 401, 402, 109), (9079, 4, 430, 431, 110), (13007, 9, 114, 115, 100), (13010, 10, 1002, 1003, 111)]
/-- long constants -/
def cplL : List (Nat × Int × Nat) := [(7069, 10, 612), (8035, 10, 981), (9195, (-1001), 750), (9211, (-1002), 755), (10194, 4, 1273), (10300, 1000, 1294), (10259, 97, 1315), (10261, 122, 1316), (10215, 48, 1344), (10217, 57, 1345), (10222, 10, 1358), (10312, 39, 1379), (10346, (-1001), 1444), (10351, (-1002), 1449), (10420, 9, 1525), (10422, 2, 1530), (10443, (-1000000000000000000), 1567), (10445, 1000000000000000000, 1568)]
/-- static arrays -/
def cpsL : List (Nat × Int × Nat) := [(3127, 2, 819), (3133, 3, 825)]
def cpc (own idx : Nat) : Option (Nat × Nat × Nat × Nat) := cpcL.lookup (own * 1000 + idx)
def cpl (own idx : Nat) : Option (Int × Nat) := cplL.lookup (own * 1000 + idx)
def cps (own idx : Nat) : Option (Int × Nat) := cpsL.lookup (own * 1000 + idx)
def cpo (own idx : Nat) : Option Nat := cpoL.lookup (own * 1000 + idx)
def cpa (own idx : Nat) : Option Nat := cpaL.lookup (own * 1000 + idx)
