/-! classes 0 .. 10 (Answer Findings Heads Matcher Net Nodes Pattern Reader Text RuleNet RuleNetModel), owners 11 Printer, 12 Math, 13 the law -/
def cnm : Nat → String := fun t => match t with
  | 0 => "RuleNet$Answer"
  | 1 => "RuleNet$Findings"
  | 2 => "RuleNet$Heads"
  | 3 => "RuleNet$Matcher"
  | 4 => "RuleNet$Net"
  | 5 => "RuleNet$Nodes"
  | 6 => "RuleNet$Pattern"
  | 7 => "RuleNet$Reader"
  | 8 => "RuleNet$Text"
  | 9 => "RuleNet"
  | 10 => "RuleNetModel"
  | 11 => "RuleNet$Printer"
  | 12 => "java/lang/Math"
  | _ => "RuleNetLaw"
def fT0 : u_T := fun k => match k with
  | 0 => ("RuleNet$Answer", "filled", "[I", true)
  | 1 => ("RuleNet$Answer", "count", "I", false)
  | 2 => ("RuleNet$Answer", "tries", "I", false)
  | 3 => ("RuleNet$Answer", "spent", "Z", false)
  | _ => ("RuleNet$Answer", "many", "Z", false)
def fT1 : u_T := fun k => match k with
  | 0 => ("RuleNet$Findings", "matcher", "LRuleNet$Matcher;", true)
  | 1 => ("RuleNet$Findings", "tree", "LRuleNet$Nodes;", true)
  | 2 => ("RuleNet$Findings", "answer", "LRuleNet$Answer;", true)
  | 3 => ("RuleNet$Findings", "nodes", "[I", true)
  | 4 => ("RuleNet$Findings", "count", "I", false)
  | 5 => ("RuleNet$Findings", "nextNode", "I", false)
  | _ => ("RuleNet$Findings", "sought", "LRuleNet$Pattern;", false)
def fT2 : u_T := fun k => match k with
  | 0 => ("RuleNet$Heads", "upper", "[I", true)
  | 1 => ("RuleNet$Heads", "headKind", "[I", true)
  | 2 => ("RuleNet$Heads", "headParts", "[I", true)
  | 3 => ("RuleNet$Heads", "headLoose", "[Z", true)
  | 4 => ("RuleNet$Heads", "kinds", "I", false)
  | _ => ("RuleNet$Heads", "heads", "I", false)
def fT3 : u_T := fun k => match k with
  | 0 => ("RuleNet$Matcher", "heads", "LRuleNet$Heads;", true)
  | 1 => ("RuleNet$Matcher", "tree", "LRuleNet$Nodes;", true)
  | 2 => ("RuleNet$Matcher", "filled", "[I", true)
  | 3 => ("RuleNet$Matcher", "chainPart", "[I", true)
  | 4 => ("RuleNet$Matcher", "chainNode", "[I", true)
  | 5 => ("RuleNet$Matcher", "chainNext", "[I", true)
  | 6 => ("RuleNet$Matcher", "chained", "I", false)
  | 7 => ("RuleNet$Matcher", "pattern", "LRuleNet$Nodes;", false)
  | 8 => ("RuleNet$Matcher", "answer", "LRuleNet$Answer;", false)
  | _ => ("RuleNet$Matcher", "firstOnly", "Z", false)
def fT4 : u_T := fun k => match k with
  | 0 => ("RuleNet$Net", "heads", "LRuleNet$Heads;", true)
  | 1 => ("RuleNet$Net", "tree", "LRuleNet$Nodes;", true)
  | 2 => ("RuleNet$Net", "patterns", "[LRuleNet$Pattern;", true)
  | 3 => ("RuleNet$Net", "passed", "[I", true)
  | _ => ("RuleNet$Net", "stoppedAt", "I", false)
def fT5 : u_T := fun k => match k with
  | 0 => ("RuleNet$Nodes", "sort", "[I", true)
  | 1 => ("RuleNet$Nodes", "head", "[I", true)
  | 2 => ("RuleNet$Nodes", "kind", "[I", true)
  | 3 => ("RuleNet$Nodes", "name", "[I", true)
  | 4 => ("RuleNet$Nodes", "spanned", "[Z", true)
  | 5 => ("RuleNet$Nodes", "number", "[J", true)
  | 6 => ("RuleNet$Nodes", "last", "[J", true)
  | 7 => ("RuleNet$Nodes", "parent", "[I", true)
  | 8 => ("RuleNet$Nodes", "size", "[I", true)
  | _ => ("RuleNet$Nodes", "count", "I", false)
def fT6 : u_T := fun k => match k with
  | 0 => ("RuleNet$Pattern", "nodes", "LRuleNet$Nodes;", true)
  | 1 => ("RuleNet$Pattern", "again", "[I", true)
  | 2 => ("RuleNet$Pattern", "answer", "LRuleNet$Answer;", true)
  | 3 => ("RuleNet$Pattern", "present", "Z", false)
  | 4 => ("RuleNet$Pattern", "rank", "I", false)
  | 5 => ("RuleNet$Pattern", "namedHoles", "I", false)
  | 6 => ("RuleNet$Pattern", "names", "I", false)
  | _ => ("RuleNet$Pattern", "wild", "I", false)
def fT7 : u_T := fun k => match k with
  | 0 => ("RuleNet$Reader", "heads", "LRuleNet$Heads;", true)
  | 1 => ("RuleNet$Reader", "text", "LRuleNet$Text;", true)
  | 2 => ("RuleNet$Reader", "draft", "LRuleNet$Nodes;", true)
  | 3 => ("RuleNet$Reader", "asPattern", "Z", false)
  | 4 => ("RuleNet$Reader", "room", "I", false)
  | 5 => ("RuleNet$Reader", "pos", "I", false)
  | 6 => ("RuleNet$Reader", "value", "J", false)
  | 7 => ("RuleNet$Reader", "fault", "I", false)
  | _ => ("RuleNet$Reader", "place", "I", false)
def fT8 : u_T := fun k => match k with
  | 0 => ("RuleNet$Text", "bytes", "[I", true)
  | _ => ("RuleNet$Text", "length", "I", false)
def fT9 : u_T := fun k => match k with
  | 0 => ("RuleNet", "heads", "LRuleNet$Heads;", true)
  | 1 => ("RuleNet", "tape", "LRuleNet$Text;", true)
  | 2 => ("RuleNet", "printed", "LRuleNet$Text;", true)
  | 3 => ("RuleNet", "theTree", "LRuleNet$Nodes;", true)
  | 4 => ("RuleNet", "draft", "LRuleNet$Nodes;", true)
  | 5 => ("RuleNet", "patterns", "[LRuleNet$Pattern;", true)
  | 6 => ("RuleNet", "reader", "LRuleNet$Reader;", true)
  | 7 => ("RuleNet", "matcher", "LRuleNet$Matcher;", true)
  | 8 => ("RuleNet", "net", "LRuleNet$Net;", true)
  | 9 => ("RuleNet", "findings", "LRuleNet$Findings;", true)
  | 10 => ("RuleNet", "spareAnswer", "LRuleNet$Answer;", true)
  | 11 => ("RuleNet", "fitting", "[I", true)
  | 12 => ("RuleNet", "fittingCount", "I", false)
  | _ => ("RuleNet", "isAsked", "Z", false)
def fT10 : u_T := fun k => match k with
  | 0 => ("RuleNetModel", "kinds", "I", false)
  | 1 => ("RuleNetModel", "above", "[I", true)
  | 2 => ("RuleNetModel", "heads", "I", false)
  | 3 => ("RuleNetModel", "headKind", "[I", true)
  | 4 => ("RuleNetModel", "headParts", "[I", true)
  | 5 => ("RuleNetModel", "isLoose", "[Z", true)
  | 6 => ("RuleNetModel", "tape", "[B", true)
  | 7 => ("RuleNetModel", "taped", "I", false)
  | 8 => ("RuleNetModel", "readWhat", "[I", true)
  | 9 => ("RuleNetModel", "readHead", "[I", true)
  | 10 => ("RuleNetModel", "readNumber", "[J", true)
  | 11 => ("RuleNetModel", "readName", "[I", true)
  | 12 => ("RuleNetModel", "readKind", "[I", true)
  | 13 => ("RuleNetModel", "readSpan", "[Z", true)
  | 14 => ("RuleNetModel", "readFirst", "[J", true)
  | 15 => ("RuleNetModel", "readSecond", "[J", true)
  | 16 => ("RuleNetModel", "readEnd", "[I", true)
  | 17 => ("RuleNetModel", "reads", "I", false)
  | 18 => ("RuleNetModel", "most", "I", false)
  | 19 => ("RuleNetModel", "isPattern", "Z", false)
  | 20 => ("RuleNetModel", "at", "I", false)
  | 21 => ("RuleNetModel", "fault", "I", false)
  | 22 => ("RuleNetModel", "faultAt", "I", false)
  | 23 => ("RuleNetModel", "placed", "I", false)
  | 24 => ("RuleNetModel", "deep", "I", false)
  | 25 => ("RuleNetModel", "open", "[I", true)
  | 26 => ("RuleNetModel", "openDone", "[I", true)
  | 27 => ("RuleNetModel", "opens", "I", false)
  | 28 => ("RuleNetModel", "wants", "Z", false)
  | 29 => ("RuleNetModel", "isThere", "[Z", true)
  | 30 => ("RuleNetModel", "rank", "[I", true)
  | 31 => ("RuleNetModel", "size", "[I", true)
  | 32 => ("RuleNetModel", "what", "[I", true)
  | 33 => ("RuleNetModel", "head", "[I", true)
  | 34 => ("RuleNetModel", "value", "[J", true)
  | 35 => ("RuleNetModel", "name", "[I", true)
  | 36 => ("RuleNetModel", "holeKind", "[I", true)
  | 37 => ("RuleNetModel", "hasSpan", "[Z", true)
  | 38 => ("RuleNetModel", "first", "[J", true)
  | 39 => ("RuleNetModel", "second", "[J", true)
  | 40 => ("RuleNetModel", "end", "[I", true)
  | 41 => ("RuleNetModel", "patterns", "I", false)
  | 42 => ("RuleNetModel", "nodes", "I", false)
  | 43 => ("RuleNetModel", "treeHead", "[I", true)
  | 44 => ("RuleNetModel", "treeNumber", "[J", true)
  | 45 => ("RuleNetModel", "treeEnd", "[I", true)
  | 46 => ("RuleNetModel", "treeUp", "[I", true)
  | 47 => ("RuleNetModel", "isAsked", "Z", false)
  | 48 => ("RuleNetModel", "goalP", "[I", true)
  | 49 => ("RuleNetModel", "goalT", "[I", true)
  | 50 => ("RuleNetModel", "goalNext", "[I", true)
  | 51 => ("RuleNetModel", "goals", "I", false)
  | 52 => ("RuleNetModel", "fill", "[I", true)
  | 53 => ("RuleNetModel", "choice", "[I", true)
  | 54 => ("RuleNetModel", "choiceP", "[I", true)
  | 55 => ("RuleNetModel", "choiceT", "[I", true)
  | 56 => ("RuleNetModel", "choiceAt", "[I", true)
  | 57 => ("RuleNetModel", "choiceRest", "[I", true)
  | 58 => ("RuleNetModel", "choiceGoals", "[I", true)
  | 59 => ("RuleNetModel", "choiceFill", "[I", true)
  | 60 => ("RuleNetModel", "choices", "I", false)
  | 61 => ("RuleNetModel", "tries", "I", false)
  | 62 => ("RuleNetModel", "isSpent", "Z", false)
  | 63 => ("RuleNetModel", "isMany", "Z", false)
  | 64 => ("RuleNetModel", "kept", "I", false)
  | 65 => ("RuleNetModel", "keptFill", "[I", true)
  | 66 => ("RuleNetModel", "chain", "I", false)
  | 67 => ("RuleNetModel", "perm", "[I", true)
  | 68 => ("RuleNetModel", "askedMany", "[I", true)
  | 69 => ("RuleNetModel", "askedTries", "[I", true)
  | 70 => ("RuleNetModel", "askedSpent", "[Z", true)
  | 71 => ("RuleNetModel", "askedLots", "[Z", true)
  | 72 => ("RuleNetModel", "askedFill", "[I", true)
  | 73 => ("RuleNetModel", "partsNode", "I", false)
  | 74 => ("RuleNetModel", "passed", "[I", true)
  | 75 => ("RuleNetModel", "out", "[B", true)
  | 76 => ("RuleNetModel", "outMany", "I", false)
  | 77 => ("RuleNetModel", "shut", "[I", true)
  | 78 => ("RuleNetModel", "shutParts", "[I", true)
  | _ => ("RuleNetModel", "shuts", "I", false)
def fT : Nat → u_T := fun t => match t with
  | 0 => fT0
  | 1 => fT1
  | 2 => fT2
  | 3 => fT3
  | 4 => fT4
  | 5 => fT5
  | 6 => fT6
  | 7 => fT7
  | 8 => fT8
  | 9 => fT9
  | _ => fT10
def nf : Nat → Nat := fun t => match t with
  | 0 => 5
  | 1 => 7
  | 2 => 6
  | 3 => 10
  | 4 => 5
  | 5 => 10
  | 6 => 8
  | 7 => 9
  | 8 => 2
  | 9 => 14
  | _ => 80
/-- kinds of fields: 0 int, 1 boolean, 2 long, 3 a final reference, 4 a reference that changes; and the type of what it refers to -/
def fkL0 : List (Nat × Nat) := [(3, 20), (0, 0), (0, 0), (1, 0), (1, 0)]
def fkL1 : List (Nat × Nat) := [(3, 3), (3, 5), (3, 0), (3, 20), (0, 0), (0, 0), (4, 6)]
def fkL2 : List (Nat × Nat) := [(3, 20), (3, 20), (3, 20), (3, 22), (0, 0), (0, 0)]
def fkL3 : List (Nat × Nat) := [(3, 2), (3, 5), (3, 20), (3, 20), (3, 20), (3, 20), (0, 0), (4, 5), (4, 0), (1, 0)]
def fkL4 : List (Nat × Nat) := [(3, 2), (3, 5), (3, 24), (3, 20), (0, 0)]
def fkL5 : List (Nat × Nat) := [(3, 20), (3, 20), (3, 20), (3, 20), (3, 22), (3, 21), (3, 21), (3, 20), (3, 20), (0, 0)]
def fkL6 : List (Nat × Nat) := [(3, 5), (3, 20), (3, 0), (1, 0), (0, 0), (0, 0), (0, 0), (0, 0)]
def fkL7 : List (Nat × Nat) := [(3, 2), (3, 8), (3, 5), (1, 0), (0, 0), (0, 0), (2, 0), (0, 0), (0, 0)]
def fkL8 : List (Nat × Nat) := [(3, 20), (0, 0)]
def fkL9 : List (Nat × Nat) := [(3, 2), (3, 8), (3, 8), (3, 5), (3, 5), (3, 24), (3, 7), (3, 3), (3, 4), (3, 1), (3, 0), (3, 20), (0, 0), (1, 0)]
def fkL10 : List (Nat × Nat) := [(0, 0), (3, 20), (0, 0), (3, 20), (3, 20), (3, 22), (3, 23), (0, 0), (3, 20), (3, 20), (3, 21), (3, 20), (3, 20), (3, 22), (3, 21), (3, 21), (3, 20), (0, 0), (0, 0), (1, 0), (0, 0), (0, 0), (0, 0), (0, 0), (0, 0), (3, 20), (3, 20), (0, 0), (1, 0), (3, 22), (3, 20), (3, 20), (3, 20), (3, 20), (3, 21), (3, 20), (3, 20), (3, 22), (3, 21), (3, 21), (3, 20), (0, 0), (0, 0), (3, 20), (3, 21), (3, 20), (3, 20), (1, 0), (3, 20), (3, 20), (3, 20), (0, 0), (3, 20), (3, 20), (3, 20), (3, 20), (3, 20), (3, 20), (3, 20), (3, 20), (0, 0), (0, 0), (1, 0), (1, 0), (0, 0), (3, 20), (0, 0), (3, 20), (3, 20), (3, 20), (3, 22), (3, 22), (3, 20), (0, 0), (3, 20), (3, 23), (0, 0), (3, 20), (3, 20), (0, 0)]
def fkL : Nat → List (Nat × Nat) := fun t => match t with
  | 0 => fkL0
  | 1 => fkL1
  | 2 => fkL2
  | 3 => fkL3
  | 4 => fkL4
  | 5 => fkL5
  | 6 => fkL6
  | 7 => fkL7
  | 8 => fkL8
  | 9 => fkL9
  | _ => fkL10
def fkt (t k : Nat) : Nat × Nat := (fkL t).getD k (0, 0)
/-- field types, parsed -/
def fyL0 : List FieldType := [(.array .int), .int, .int, .boolean, .boolean]
def fyL1 : List FieldType := [(.object "RuleNet$Matcher"), (.object "RuleNet$Nodes"), (.object "RuleNet$Answer"), (.array .int), .int, .int, (.object "RuleNet$Pattern")]
def fyL2 : List FieldType := [(.array .int), (.array .int), (.array .int), (.array .boolean), .int, .int]
def fyL3 : List FieldType := [(.object "RuleNet$Heads"), (.object "RuleNet$Nodes"), (.array .int), (.array .int), (.array .int), (.array .int), .int, (.object "RuleNet$Nodes"), (.object "RuleNet$Answer"), .boolean]
def fyL4 : List FieldType := [(.object "RuleNet$Heads"), (.object "RuleNet$Nodes"), (.array (.object "RuleNet$Pattern")), (.array .int), .int]
def fyL5 : List FieldType := [(.array .int), (.array .int), (.array .int), (.array .int), (.array .boolean), (.array .long), (.array .long), (.array .int), (.array .int), .int]
def fyL6 : List FieldType := [(.object "RuleNet$Nodes"), (.array .int), (.object "RuleNet$Answer"), .boolean, .int, .int, .int, .int]
def fyL7 : List FieldType := [(.object "RuleNet$Heads"), (.object "RuleNet$Text"), (.object "RuleNet$Nodes"), .boolean, .int, .int, .long, .int, .int]
def fyL8 : List FieldType := [(.array .int), .int]
def fyL9 : List FieldType := [(.object "RuleNet$Heads"), (.object "RuleNet$Text"), (.object "RuleNet$Text"), (.object "RuleNet$Nodes"), (.object "RuleNet$Nodes"), (.array (.object "RuleNet$Pattern")), (.object "RuleNet$Reader"), (.object "RuleNet$Matcher"), (.object "RuleNet$Net"), (.object "RuleNet$Findings"), (.object "RuleNet$Answer"), (.array .int), .int, .boolean]
def fyL10 : List FieldType := [.int, (.array .int), .int, (.array .int), (.array .int), (.array .boolean), (.array .byte), .int, (.array .int), (.array .int), (.array .long), (.array .int), (.array .int), (.array .boolean), (.array .long), (.array .long), (.array .int), .int, .int, .boolean, .int, .int, .int, .int, .int, (.array .int), (.array .int), .int, .boolean, (.array .boolean), (.array .int), (.array .int), (.array .int), (.array .int), (.array .long), (.array .int), (.array .int), (.array .boolean), (.array .long), (.array .long), (.array .int), .int, .int, (.array .int), (.array .long), (.array .int), (.array .int), .boolean, (.array .int), (.array .int), (.array .int), .int, (.array .int), (.array .int), (.array .int), (.array .int), (.array .int), (.array .int), (.array .int), (.array .int), .int, .int, .boolean, .boolean, .int, (.array .int), .int, (.array .int), (.array .int), (.array .int), (.array .boolean), (.array .boolean), (.array .int), .int, (.array .int), (.array .byte), .int, (.array .int), (.array .int), .int]
def fyL : Nat → List FieldType := fun t => match t with
  | 0 => fyL0
  | 1 => fyL1
  | 2 => fyL2
  | 3 => fyL3
  | 4 => fyL4
  | 5 => fyL5
  | 6 => fyL6
  | 7 => fyL7
  | 8 => fyL8
  | 9 => fyL9
  | _ => fyL10
def fty (t k : Nat) : FieldType := (fyL t).getD k .int
def aty : Nat → FieldType := fun t => match t with
  | 20 => .int
  | 21 => .long
  | 22 => .boolean
  | 23 => .byte
  | _ => .object "RuleNet$Pattern"
def akd : Nat → Nat × Nat := fun t => match t with
  | 20 => (0, 0)
  | 21 => (2, 0)
  | 22 => (1, 0)
  | 23 => (5, 0)
  | _ => (3, 6)
def shA : List (Nat × Int) := [(99, 0), (20, 0), (20, 5), (20, 96), (9, 0), (2, 0), (20, 12), (20, 20), (20, 20), (22, 20), (8, 0), (20, 1000), (8, 0), (20, 3000), (5, 0), (20, 120), (20, 120), (20, 120), (20, 120), (22, 120), (21, 120), (21, 120), (20, 120), (20, 120), (5, 0), (20, 120), (20, 120), (20, 120), (20, 120), (22, 120), (21, 120), (21, 120), (20, 120), (20, 120), (24, 40)]
def shP : List (Nat × Int) := [(6, 0), (5, 0), (20, 24), (20, 24), (20, 24), (20, 24), (22, 24), (21, 24), (21, 24), (20, 24), (20, 24), (20, 24), (0, 0), (20, 300)]
def shB : List (Nat × Int) := [(0, 0), (20, 300), (7, 0), (3, 0), (20, 10), (20, 24), (20, 24), (20, 24), (1, 0), (20, 120), (4, 0), (20, 24), (20, 40), (10, 0), (20, 12), (20, 20), (20, 20), (22, 20), (23, 1000), (20, 121), (20, 121), (21, 121), (20, 121), (20, 121), (22, 121), (21, 121), (21, 121), (20, 121), (20, 200), (20, 200), (22, 40), (20, 40), (20, 40), (20, 960), (20, 960), (21, 960), (20, 960), (20, 960), (22, 960), (21, 960), (21, 960), (20, 960), (20, 240), (21, 240), (20, 240), (20, 120), (20, 10200), (20, 10200), (20, 10200), (20, 10), (20, 2100), (20, 2100), (20, 2100), (20, 2100), (20, 2100), (20, 2100), (20, 21000), (20, 300), (20, 4), (20, 40), (20, 40), (22, 40), (22, 40), (20, 12000), (20, 24), (23, 4000), (20, 130), (20, 130)]
/-- what lies at an address of the light heap: a class, or a kind of array (20 int, 21 long, 22 boolean, 23 byte, 24 Pattern) and its length -/
def SH (a : Int) : Nat × Int := if a < 35 then shA.getD a.toNat (99, 0) else if a < 595 then shP.getD ((a - 35) % 14).toNat (99, 0) else shB.getD (a - 595).toNat (99, 0)
def rcL (t : Nat) (a : Int) : List Int := match t with
  | 0 => [a + 1, 0, 0, 0, 0]
  | 1 => [598, 14, 595, a + 1, 0, 0, 0]
  | 2 => [a + 1, a + 2, a + 3, a + 4, 0, 0]
  | 3 => [5, 14, a + 1, a + 2, a + 3, a + 4, 0, 0, 0, 0]
  | 4 => [5, 14, 34, a + 1, 0]
  | 5 => [a + 1, a + 2, a + 3, a + 4, a + 5, a + 6, a + 7, a + 8, a + 9, 0]
  | 6 => [a + 1, a + 11, a + 12, 0, 0, 0, 0, 0]
  | 7 => [5, 10, 24, 0, 0, 0, 0, 0, 0]
  | 8 => [a + 1, 0]
  | 9 => [5, 10, 12, 14, 24, 34, 597, 598, 605, 603, 595, 607, 0, 0]
  | 10 => [0, 609, 0, 610, 611, 612, 613, 0, 614, 615, 616, 617, 618, 619, 620, 621, 622, 0, 0, 0, 0, 0, 0, 0, 0, 623, 624, 0, 0, 625, 626, 627, 628, 629, 630, 631, 632, 633, 634, 635, 636, 0, 0, 637, 638, 639, 640, 0, 641, 642, 643, 0, 644, 645, 646, 647, 648, 649, 650, 651, 0, 0, 0, 0, 0, 652, 0, 653, 654, 655, 656, 657, 658, 0, 659, 660, 0, 661, 662, 0]
  | _ => []
/-- the references that never change once all is made -/
def RC (t : Nat) (a k : Int) : Int := match t with
  | 24 => 35 + 14 * k
  | t => (rcL t a).getD k.toNat 0
def NX : Int := 663
abbrev MI : Type := MethodName × ByteArray × Nat × Option FieldType
def i9_init : MI := (⟨"RuleNet", "<init>", "()V"⟩, prog_1_method_1_code, 2, none)
def i2_init : MI := (⟨"RuleNet$Heads", "<init>", "()V"⟩, prog_4_method_1_code, 1, none)
def i8_init : MI := (⟨"RuleNet$Text", "<init>", "(I)V"⟩, prog_11_method_1_code, 2, none)
def i5_init : MI := (⟨"RuleNet$Nodes", "<init>", "(I)V"⟩, prog_7_method_1_code, 3, none)
def i6_init : MI := (⟨"RuleNet$Pattern", "<init>", "()V"⟩, prog_8_method_1_code, 1, none)
def i0_init : MI := (⟨"RuleNet$Answer", "<init>", "()V"⟩, prog_2_method_1_code, 1, none)
def i7_init : MI := (⟨"RuleNet$Reader", "<init>", "(LRuleNet$Heads;LRuleNet$Text;LRuleNet$Nodes;)V"⟩, prog_10_method_1_code, 4, none)
def i3_init : MI := (⟨"RuleNet$Matcher", "<init>", "(LRuleNet$Heads;LRuleNet$Nodes;LRuleNet$Answer;)V"⟩, prog_5_method_1_code, 4, none)
def i1_init : MI := (⟨"RuleNet$Findings", "<init>", "(LRuleNet$Matcher;LRuleNet$Nodes;LRuleNet$Answer;)V"⟩, prog_3_method_1_code, 4, none)
def i4_init : MI := (⟨"RuleNet$Net", "<init>", "(LRuleNet$Heads;LRuleNet$Nodes;[LRuleNet$Pattern;)V"⟩, prog_6_method_1_code, 4, none)
def i9_kind : MI := (⟨"RuleNet", "kind", "(I)I"⟩, prog_1_method_2_code, 2, (some FieldType.int))
def i2_hasKind : MI := (⟨"RuleNet$Heads", "hasKind", "(J)Z"⟩, prog_4_method_2_code, 3, (some FieldType.boolean))
def i2_addKind : MI := (⟨"RuleNet$Heads", "addKind", "(I)I"⟩, prog_4_method_4_code, 2, (some FieldType.int))
def i9_isUnder : MI := (⟨"RuleNet", "isUnder", "(II)I"⟩, prog_1_method_3_code, 3, (some FieldType.int))
def i2_isBelow : MI := (⟨"RuleNet$Heads", "isBelow", "(II)Z"⟩, prog_4_method_6_code, 5, (some FieldType.boolean))
def i9_asInt : MI := (⟨"RuleNet", "asInt", "(Z)I"⟩, prog_1_method_31_code, 1, (some FieldType.int))
def i9_head : MI := (⟨"RuleNet", "head", "(IIZ)I"⟩, prog_1_method_4_code, 4, (some FieldType.int))
def i2_addHead : MI := (⟨"RuleNet$Heads", "addHead", "(IIZ)I"⟩, prog_4_method_5_code, 4, (some FieldType.int))
def i9_feed : MI := (⟨"RuleNet", "feed", "(IIIII)I"⟩, prog_1_method_5_code, 6, (some FieldType.int))
def i8_addFour : MI := (⟨"RuleNet$Text", "addFour", "(I)V"⟩, prog_11_method_4_code, 3, none)
def i8_add : MI := (⟨"RuleNet$Text", "add", "(I)V"⟩, prog_11_method_3_code, 2, none)
def i9_cut : MI := (⟨"RuleNet", "cut", "(I)I"⟩, prog_1_method_6_code, 3, (some FieldType.int))
def i9_pattern : MI := (⟨"RuleNet", "pattern", "(I)I"⟩, prog_1_method_7_code, 4, (some FieldType.int))
def i9_freeNumber : MI := (⟨"RuleNet", "freeNumber", "()I"⟩, prog_1_method_33_code, 2, (some FieldType.int))
def i7_read : MI := (⟨"RuleNet$Reader", "read", "(ZI)I"⟩, prog_10_method_2_code, 3, (some FieldType.int))
def i7_readNode : MI := (⟨"RuleNet$Reader", "readNode", "(I)Z"⟩, prog_10_method_7_code, 3, (some FieldType.boolean))
def i7_skipBlanks : MI := (⟨"RuleNet$Reader", "skipBlanks", "()V"⟩, prog_10_method_4_code, 1, none)
def i8_byteAt : MI := (⟨"RuleNet$Text", "byteAt", "(I)I"⟩, prog_11_method_2_code, 2, (some FieldType.int))
def i7_fail : MI := (⟨"RuleNet$Reader", "fail", "(II)Z"⟩, prog_10_method_3_code, 3, (some FieldType.boolean))
def i7_readHead : MI := (⟨"RuleNet$Reader", "readHead", "(II)Z"⟩, prog_10_method_9_code, 5, (some FieldType.boolean))
def i2_hasHead : MI := (⟨"RuleNet$Heads", "hasHead", "(I)Z"⟩, prog_4_method_3_code, 2, (some FieldType.boolean))
def i7_addNode : MI := (⟨"RuleNet$Reader", "addNode", "(II)I"⟩, prog_10_method_8_code, 4, (some FieldType.int))
def i5_add : MI := (⟨"RuleNet$Nodes", "add", "(I)I"⟩, prog_7_method_3_code, 3, (some FieldType.int))
def i7_readParts : MI := (⟨"RuleNet$Reader", "readParts", "(II)Z"⟩, prog_10_method_10_code, 4, (some FieldType.boolean))
def i7_readBehindPart : MI := (⟨"RuleNet$Reader", "readBehindPart", "(Z)Z"⟩, prog_10_method_11_code, 5, (some FieldType.boolean))
def i7_readNumberNode : MI := (⟨"RuleNet$Reader", "readNumberNode", "()Z"⟩, prog_10_method_13_code, 4, (some FieldType.boolean))
def i7_readNumber : MI := (⟨"RuleNet$Reader", "readNumber", "()Z"⟩, prog_10_method_14_code, 4, (some FieldType.boolean))
def i7_endOfDigits : MI := (⟨"RuleNet$Reader", "endOfDigits", "(I)I"⟩, prog_10_method_5_code, 3, (some FieldType.int))
def i7_takeDigits : MI := (⟨"RuleNet$Reader", "takeDigits", "(II)V"⟩, prog_10_method_6_code, 4, none)
def i7_readHole : MI := (⟨"RuleNet$Reader", "readHole", "()Z"⟩, prog_10_method_15_code, 3, (some FieldType.boolean))
def i7_readKind : MI := (⟨"RuleNet$Reader", "readKind", "(I)Z"⟩, prog_10_method_16_code, 4, (some FieldType.boolean))
def i7_readSpan : MI := (⟨"RuleNet$Reader", "readSpan", "(I)Z"⟩, prog_10_method_17_code, 2, (some FieldType.boolean))
def i7_passSign : MI := (⟨"RuleNet$Reader", "passSign", "(I)Z"⟩, prog_10_method_18_code, 2, (some FieldType.boolean))
def i7_readOver : MI := (⟨"RuleNet$Reader", "readOver", "(II)Z"⟩, prog_10_method_12_code, 3, (some FieldType.boolean))
def i6_take : MI := (⟨"RuleNet$Pattern", "take", "(LRuleNet$Nodes;ILRuleNet$Heads;)V"⟩, prog_8_method_2_code, 5, none)
def i5_replace : MI := (⟨"RuleNet$Nodes", "replace", "(IILRuleNet$Nodes;)V"⟩, prog_7_method_4_code, 7, none)
def i5_put : MI := (⟨"RuleNet$Nodes", "put", "(ILRuleNet$Nodes;I)V"⟩, prog_7_method_5_code, 4, none)
def i5_link : MI := (⟨"RuleNet$Nodes", "link", "(LRuleNet$Heads;)V"⟩, prog_7_method_6_code, 5, none)
def i2_partsOfNode : MI := (⟨"RuleNet$Heads", "partsOfNode", "(LRuleNet$Nodes;I)I"⟩, prog_4_method_9_code, 3, (some FieldType.int))
def i6_holesAheadOfFirst : MI := (⟨"RuleNet$Pattern", "holesAheadOfFirst", "(I)I"⟩, prog_8_method_4_code, 4, (some FieldType.int))
def i6_isWild : MI := (⟨"RuleNet$Pattern", "isWild", "(ILRuleNet$Heads;)Z"⟩, prog_8_method_3_code, 4, (some FieldType.boolean))
def i2_isLooseNode : MI := (⟨"RuleNet$Heads", "isLooseNode", "(LRuleNet$Nodes;I)Z"⟩, prog_4_method_10_code, 3, (some FieldType.boolean))
def i9_forgetAnswers : MI := (⟨"RuleNet", "forgetAnswers", "()V"⟩, prog_1_method_35_code, 1, none)
def i9_drop : MI := (⟨"RuleNet", "drop", "(I)I"⟩, prog_1_method_8_code, 3, (some FieldType.int))
def i9_patternOf : MI := (⟨"RuleNet", "patternOf", "(I)LRuleNet$Pattern;"⟩, prog_1_method_32_code, 2, (some (FieldType.object "RuleNet$Pattern")))
def i9_presentPatterns : MI := (⟨"RuleNet", "presentPatterns", "()I"⟩, prog_1_method_34_code, 3, (some FieldType.int))
def i9_tree : MI := (⟨"RuleNet", "tree", "()I"⟩, prog_1_method_9_code, 1, (some FieldType.int))
def i9_replaceInTree : MI := (⟨"RuleNet", "replaceInTree", "(II)I"⟩, prog_1_method_36_code, 4, (some FieldType.int))
def i9_change : MI := (⟨"RuleNet", "change", "(I)I"⟩, prog_1_method_10_code, 2, (some FieldType.int))
def i5_has : MI := (⟨"RuleNet$Nodes", "has", "(I)Z"⟩, prog_7_method_2_code, 2, (some FieldType.boolean))
def i9_place : MI := (⟨"RuleNet", "place", "()I"⟩, prog_1_method_11_code, 1, (some FieldType.int))
def i9_count : MI := (⟨"RuleNet", "count", "(I)I"⟩, prog_1_method_12_code, 2, (some FieldType.int))
def i4_patternsIn : MI := (⟨"RuleNet$Net", "patternsIn", "()I"⟩, prog_6_method_2_code, 3, (some FieldType.int))
def i6_isInNet : MI := (⟨"RuleNet$Pattern", "isInNet", "()Z"⟩, prog_8_method_5_code, 1, (some FieldType.boolean))
def i4_stepsIn : MI := (⟨"RuleNet$Net", "stepsIn", "()I"⟩, prog_6_method_4_code, 3, (some FieldType.int))
def i4_stepsOfOthers : MI := (⟨"RuleNet$Net", "stepsOfOthers", "(I)I"⟩, prog_6_method_5_code, 4, (some FieldType.int))
def i4_likeMarks : MI := (⟨"RuleNet$Net", "likeMarks", "(LRuleNet$Pattern;LRuleNet$Pattern;)I"⟩, prog_6_method_6_code, 5, (some FieldType.int))
def i4_isLikeMark : MI := (⟨"RuleNet$Net", "isLikeMark", "(LRuleNet$Pattern;LRuleNet$Pattern;I)Z"⟩, prog_6_method_7_code, 4, (some FieldType.boolean))
def i4_marksIn : MI := (⟨"RuleNet$Net", "marksIn", "()I"⟩, prog_6_method_3_code, 3, (some FieldType.int))
def i9_told : MI := (⟨"RuleNet", "told", "(II)I"⟩, prog_1_method_13_code, 4, (some FieldType.int))
def i9_node : MI := (⟨"RuleNet", "node", "(II)J"⟩, prog_1_method_14_code, 3, (some FieldType.long))
def i2_kindOfNode : MI := (⟨"RuleNet$Heads", "kindOfNode", "(LRuleNet$Nodes;I)I"⟩, prog_4_method_8_code, 3, (some FieldType.int))
def i9_alike : MI := (⟨"RuleNet", "alike", "(II)I"⟩, prog_1_method_15_code, 3, (some FieldType.int))
def i5_areAlike : MI := (⟨"RuleNet$Nodes", "areAlike", "(II)Z"⟩, prog_7_method_8_code, 4, (some FieldType.boolean))
def i9_ask : MI := (⟨"RuleNet", "ask", "()I"⟩, prog_1_method_16_code, 1, (some FieldType.int))
def i9_askAll : MI := (⟨"RuleNet", "askAll", "()V"⟩, prog_1_method_37_code, 2, none)
def i3_run : MI := (⟨"RuleNet$Matcher", "run", "(LRuleNet$Pattern;ILRuleNet$Answer;Z)V"⟩, prog_5_method_2_code, 6, none)
def i0_clear : MI := (⟨"RuleNet$Answer", "clear", "()V"⟩, prog_2_method_2_code, 1, none)
def i3_chain : MI := (⟨"RuleNet$Matcher", "chain", "(III)I"⟩, prog_5_method_3_code, 4, (some FieldType.int))
def i3_walk : MI := (⟨"RuleNet$Matcher", "walk", "(II)Z"⟩, prog_5_method_5_code, 4, (some FieldType.boolean))
def i3_keepFilling : MI := (⟨"RuleNet$Matcher", "keepFilling", "()Z"⟩, prog_5_method_6_code, 1, (some FieldType.boolean))
def i0_keep : MI := (⟨"RuleNet$Answer", "keep", "([I)V"⟩, prog_2_method_6_code, 2, none)
def i0_holds : MI := (⟨"RuleNet$Answer", "holds", "([I)Z"⟩, prog_2_method_5_code, 4, (some FieldType.boolean))
def i0_nodeOf : MI := (⟨"RuleNet$Answer", "nodeOf", "(II)I"⟩, prog_2_method_4_code, 3, (some FieldType.int))
def i3_mayTry : MI := (⟨"RuleNet$Matcher", "mayTry", "()Z"⟩, prog_5_method_7_code, 1, (some FieldType.boolean))
def i3_walkParts : MI := (⟨"RuleNet$Matcher", "walkParts", "(II)Z"⟩, prog_5_method_9_code, 9, (some FieldType.boolean))
def i3_chainParts : MI := (⟨"RuleNet$Matcher", "chainParts", "(III)I"⟩, prog_5_method_10_code, 8, (some FieldType.int))
def i5_partOf : MI := (⟨"RuleNet$Nodes", "partOf", "(II)I"⟩, prog_7_method_7_code, 5, (some FieldType.int))
def i3_isNumber : MI := (⟨"RuleNet$Matcher", "isNumber", "(IJ)Z"⟩, prog_5_method_8_code, 4, (some FieldType.boolean))
def i3_walkHole : MI := (⟨"RuleNet$Matcher", "walkHole", "(II)Z"⟩, prog_5_method_11_code, 7, (some FieldType.boolean))
def i3_fitsHole : MI := (⟨"RuleNet$Matcher", "fitsHole", "(LRuleNet$Heads;LRuleNet$Nodes;ILRuleNet$Nodes;I)Z"⟩, prog_5_method_14_code, 5, (some FieldType.boolean))
def i5_spanHolds : MI := (⟨"RuleNet$Nodes", "spanHolds", "(IJ)Z"⟩, prog_7_method_9_code, 4, (some FieldType.boolean))
def i3_walkBelow : MI := (⟨"RuleNet$Matcher", "walkBelow", "(II)Z"⟩, prog_5_method_12_code, 7, (some FieldType.boolean))
def i3_walkFrom : MI := (⟨"RuleNet$Matcher", "walkFrom", "(IIII)Z"⟩, prog_5_method_4_code, 7, (some FieldType.boolean))
def i3_walkNowhere : MI := (⟨"RuleNet$Matcher", "walkNowhere", "(II)Z"⟩, prog_5_method_13_code, 6, (some FieldType.boolean))
def i9_addFitting : MI := (⟨"RuleNet", "addFitting", "(I)V"⟩, prog_1_method_38_code, 3, none)
def i9_fit : MI := (⟨"RuleNet", "fit", "(I)I"⟩, prog_1_method_17_code, 2, (some FieldType.int))
def i9_fillings : MI := (⟨"RuleNet", "fillings", "(I)I"⟩, prog_1_method_18_code, 3, (some FieldType.int))
def i9_filling : MI := (⟨"RuleNet", "filling", "(III)I"⟩, prog_1_method_19_code, 5, (some FieldType.int))
def i0_has : MI := (⟨"RuleNet$Answer", "has", "(I)Z"⟩, prog_2_method_3_code, 2, (some FieldType.boolean))
def i9_asked : MI := (⟨"RuleNet", "asked", "(II)I"⟩, prog_1_method_20_code, 4, (some FieldType.int))
def i9_at : MI := (⟨"RuleNet", "at", "(II)I"⟩, prog_1_method_21_code, 4, (some FieldType.int))
def i9_found : MI := (⟨"RuleNet", "found", "(II)I"⟩, prog_1_method_22_code, 4, (some FieldType.int))
def i1_nodeFound : MI := (⟨"RuleNet$Findings", "nodeFound", "(LRuleNet$Pattern;I)I"⟩, prog_3_method_2_code, 3, (some FieldType.int))
def i9_looks : MI := (⟨"RuleNet", "looks", "(I)I"⟩, prog_1_method_23_code, 2, (some FieldType.int))
def i4_looksAtTree : MI := (⟨"RuleNet$Net", "looksAtTree", "(Z)I"⟩, prog_6_method_8_code, 6, (some FieldType.int))
def i4_marksThatGo : MI := (⟨"RuleNet$Net", "marksThatGo", "(LRuleNet$Pattern;)I"⟩, prog_6_method_9_code, 6, (some FieldType.int))
def i4_goes : MI := (⟨"RuleNet$Net", "goes", "(LRuleNet$Pattern;II)Z"⟩, prog_6_method_10_code, 6, (some FieldType.boolean))
def i9_parts : MI := (⟨"RuleNet", "parts", "(II)I"⟩, prog_1_method_24_code, 5, (some FieldType.int))
def i9_shared : MI := (⟨"RuleNet", "shared", "(II)I"⟩, prog_1_method_25_code, 5, (some FieldType.int))
def i9_clash : MI := (⟨"RuleNet", "clash", "(II)I"⟩, prog_1_method_26_code, 5, (some FieldType.int))
def i6_hasNameTwice : MI := (⟨"RuleNet$Pattern", "hasNameTwice", "()Z"⟩, prog_8_method_6_code, 1, (some FieldType.boolean))
def i4_haveTreeInCommon : MI := (⟨"RuleNet$Net", "haveTreeInCommon", "(LRuleNet$Nodes;LRuleNet$Nodes;)Z"⟩, prog_6_method_11_code, 6, (some FieldType.boolean))
def i4_agree : MI := (⟨"RuleNet$Net", "agree", "(LRuleNet$Nodes;ILRuleNet$Nodes;I)Z"⟩, prog_6_method_12_code, 5, (some FieldType.boolean))
def i4_holesAgree : MI := (⟨"RuleNet$Net", "holesAgree", "(LRuleNet$Nodes;ILRuleNet$Nodes;I)Z"⟩, prog_6_method_13_code, 9, (some FieldType.boolean))
def i2_someHeadBelow : MI := (⟨"RuleNet$Heads", "someHeadBelow", "(I)Z"⟩, prog_4_method_7_code, 3, (some FieldType.boolean))
def i4_holeTakes : MI := (⟨"RuleNet$Net", "holeTakes", "(LRuleNet$Nodes;ILRuleNet$Nodes;I)Z"⟩, prog_6_method_14_code, 6, (some FieldType.boolean))
def i9_print : MI := (⟨"RuleNet", "print", "(I)I"⟩, prog_1_method_27_code, 3, (some FieldType.int))
def i11_write : MI := (⟨"RuleNet$Printer", "write", "(LRuleNet$Nodes;ILRuleNet$Text;)I"⟩, prog_9_method_2_code, 5, (some FieldType.int))
def i11_writeNode : MI := (⟨"RuleNet$Printer", "writeNode", "(LRuleNet$Nodes;ILRuleNet$Text;)V"⟩, prog_9_method_3_code, 3, none)
def i8_addNumber : MI := (⟨"RuleNet$Text", "addNumber", "(J)V"⟩, prog_11_method_5_code, 8, none)
def i11_writeHole : MI := (⟨"RuleNet$Printer", "writeHole", "(LRuleNet$Nodes;ILRuleNet$Text;)V"⟩, prog_9_method_4_code, 3, none)
def i11_writeBehind : MI := (⟨"RuleNet$Printer", "writeBehind", "(LRuleNet$Nodes;IILRuleNet$Text;)V"⟩, prog_9_method_5_code, 6, none)
def i9_printNode : MI := (⟨"RuleNet", "printNode", "(I)I"⟩, prog_1_method_28_code, 2, (some FieldType.int))
def i9_out : MI := (⟨"RuleNet", "out", "(I)I"⟩, prog_1_method_29_code, 2, (some FieldType.int))
def i9_back : MI := (⟨"RuleNet", "back", "()I"⟩, prog_1_method_30_code, 2, (some FieldType.int))
def i10_init : MI := (⟨"RuleNetModel", "<init>", "()V"⟩, prog_13_method_1_code, 1, none)
def i10_kind : MI := (⟨"RuleNetModel", "kind", "(I)I"⟩, prog_13_method_5_code, 2, (some FieldType.int))
def i10_noKind : MI := (⟨"RuleNetModel", "noKind", "(I)Z"⟩, prog_13_method_4_code, 2, (some FieldType.boolean))
def i10_in : MI := (⟨"RuleNetModel", "in", "(JJJ)Z"⟩, prog_13_method_3_code, 6, (some FieldType.boolean))
def i10_isUnder : MI := (⟨"RuleNetModel", "isUnder", "(II)I"⟩, prog_13_method_7_code, 3, (some FieldType.int))
def i10_lies : MI := (⟨"RuleNetModel", "lies", "(II)Z"⟩, prog_13_method_6_code, 4, (some FieldType.boolean))
def i10_head : MI := (⟨"RuleNetModel", "head", "(IIZ)I"⟩, prog_13_method_8_code, 4, (some FieldType.int))
def i10_feed : MI := (⟨"RuleNetModel", "feed", "(IIIII)I"⟩, prog_13_method_10_code, 6, (some FieldType.int))
def i10_four : MI := (⟨"RuleNetModel", "four", "(I)V"⟩, prog_13_method_9_code, 3, none)
def i10_cut : MI := (⟨"RuleNetModel", "cut", "(I)I"⟩, prog_13_method_11_code, 3, (some FieldType.int))
def i10_place : MI := (⟨"RuleNetModel", "place", "()I"⟩, prog_13_method_30_code, 1, (some FieldType.int))
def i10_pattern : MI := (⟨"RuleNetModel", "pattern", "(I)I"⟩, prog_13_method_31_code, 5, (some FieldType.int))
def i10_read : MI := (⟨"RuleNetModel", "read", "(ZI)V"⟩, prog_13_method_29_code, 3, none)
def i10_fine : MI := (⟨"RuleNetModel", "fine", "()Z"⟩, prog_13_method_13_code, 1, (some FieldType.boolean))
def i10_readNode : MI := (⟨"RuleNetModel", "readNode", "()V"⟩, prog_13_method_23_code, 5, none)
def i10_blanks : MI := (⟨"RuleNetModel", "blanks", "()V"⟩, prog_13_method_15_code, 1, none)
def i10_here : MI := (⟨"RuleNetModel", "here", "()I"⟩, prog_13_method_14_code, 1, (some FieldType.int))
def i10_readLetter : MI := (⟨"RuleNetModel", "readLetter", "(I)V"⟩, prog_13_method_24_code, 4, none)
def i10_wrong : MI := (⟨"RuleNetModel", "wrong", "(II)V"⟩, prog_13_method_12_code, 3, none)
def i10_newNode : MI := (⟨"RuleNetModel", "newNode", "(I)I"⟩, prog_13_method_20_code, 3, (some FieldType.int))
def i10_deeper : MI := (⟨"RuleNetModel", "deeper", "()V"⟩, prog_13_method_21_code, 1, none)
def i10_push : MI := (⟨"RuleNetModel", "push", "(I)V"⟩, prog_13_method_22_code, 2, none)
def i10_ended : MI := (⟨"RuleNetModel", "ended", "(I)V"⟩, prog_13_method_28_code, 7, none)
def i10_isDigit : MI := (⟨"RuleNetModel", "isDigit", "(I)Z"⟩, prog_13_method_16_code, 1, (some FieldType.boolean))
def i10_number : MI := (⟨"RuleNetModel", "number", "(Z)J"⟩, prog_13_method_19_code, 6, (some FieldType.long))
def i10_digitsFrom : MI := (⟨"RuleNetModel", "digitsFrom", "(I)I"⟩, prog_13_method_17_code, 3, (some FieldType.int))
def i10_digits : MI := (⟨"RuleNetModel", "digits", "(I)J"⟩, prog_13_method_18_code, 5, (some FieldType.long))
def i10_readHole : MI := (⟨"RuleNetModel", "readHole", "()V"⟩, prog_13_method_25_code, 7, none)
def i10_readSpan : MI := (⟨"RuleNetModel", "readSpan", "(I)V"⟩, prog_13_method_26_code, 2, none)
def i10_take : MI := (⟨"RuleNetModel", "take", "(I)V"⟩, prog_13_method_27_code, 2, none)
def i10_drop : MI := (⟨"RuleNetModel", "drop", "(I)I"⟩, prog_13_method_33_code, 2, (some FieldType.int))
def i10_noPattern : MI := (⟨"RuleNetModel", "noPattern", "(I)Z"⟩, prog_13_method_32_code, 2, (some FieldType.boolean))
def i10_tree : MI := (⟨"RuleNetModel", "tree", "()I"⟩, prog_13_method_35_code, 2, (some FieldType.int))
def i10_findUps : MI := (⟨"RuleNetModel", "findUps", "()V"⟩, prog_13_method_34_code, 3, none)
def i10_change : MI := (⟨"RuleNetModel", "change", "(I)I"⟩, prog_13_method_37_code, 5, (some FieldType.int))
def i10_noNode : MI := (⟨"RuleNetModel", "noNode", "(I)Z"⟩, prog_13_method_36_code, 2, (some FieldType.boolean))
def i10_count : MI := (⟨"RuleNetModel", "count", "(I)I"⟩, prog_13_method_41_code, 2, (some FieldType.int))
def i10_netSize : MI := (⟨"RuleNetModel", "netSize", "(Z)I"⟩, prog_13_method_42_code, 4, (some FieldType.int))
def i10_inNet : MI := (⟨"RuleNetModel", "inNet", "(I)Z"⟩, prog_13_method_38_code, 2, (some FieldType.boolean))
def i10_oddOf : MI := (⟨"RuleNetModel", "oddOf", "(I)I"⟩, prog_13_method_39_code, 4, (some FieldType.int))
def i10_steps : MI := (⟨"RuleNetModel", "steps", "()I"⟩, prog_13_method_72_code, 4, (some FieldType.int))
def i10_isNew : MI := (⟨"RuleNetModel", "isNew", "(II)Z"⟩, prog_13_method_71_code, 5, (some FieldType.boolean))
def i10_common : MI := (⟨"RuleNetModel", "common", "(II)I"⟩, prog_13_method_70_code, 4, (some FieldType.int))
def i10_areMarksLike : MI := (⟨"RuleNetModel", "areMarksLike", "(III)Z"⟩, prog_13_method_69_code, 7, (some FieldType.boolean))
def i10_againOf : MI := (⟨"RuleNetModel", "againOf", "(II)I"⟩, prog_13_method_68_code, 6, (some FieldType.int))
def i10_told : MI := (⟨"RuleNetModel", "told", "(II)I"⟩, prog_13_method_43_code, 3, (some FieldType.int))
def i10_namesOf : MI := (⟨"RuleNetModel", "namesOf", "(IZ)I"⟩, prog_13_method_40_code, 6, (some FieldType.int))
def i10_node : MI := (⟨"RuleNetModel", "node", "(II)J"⟩, prog_13_method_45_code, 3, (some FieldType.long))
def i10_kindOf : MI := (⟨"RuleNetModel", "kindOf", "(I)I"⟩, prog_13_method_44_code, 2, (some FieldType.int))
def i10_alike : MI := (⟨"RuleNetModel", "alike", "(II)I"⟩, prog_13_method_47_code, 3, (some FieldType.int))
def i10_areAlike : MI := (⟨"RuleNetModel", "areAlike", "(II)Z"⟩, prog_13_method_46_code, 5, (some FieldType.boolean))
def i10_ask : MI := (⟨"RuleNetModel", "ask", "()I"⟩, prog_13_method_60_code, 4, (some FieldType.int))
def i10_fitAll : MI := (⟨"RuleNetModel", "fitAll", "(II)V"⟩, prog_13_method_59_code, 5, none)
def i10_goal : MI := (⟨"RuleNetModel", "goal", "(III)I"⟩, prog_13_method_48_code, 4, (some FieldType.int))
def i10_keep : MI := (⟨"RuleNetModel", "keep", "()V"⟩, prog_13_method_58_code, 4, none)
def i10_doGoal : MI := (⟨"RuleNetModel", "doGoal", "()Z"⟩, prog_13_method_56_code, 5, (some FieldType.boolean))
def i10_choose : MI := (⟨"RuleNetModel", "choose", "(IIIII)V"⟩, prog_13_method_49_code, 7, none)
def i10_partsBy : MI := (⟨"RuleNetModel", "partsBy", "(IIII)I"⟩, prog_13_method_52_code, 9, (some FieldType.int))
def i10_order : MI := (⟨"RuleNetModel", "order", "(II)V"⟩, prog_13_method_50_code, 9, none)
def i10_partOf : MI := (⟨"RuleNetModel", "partOf", "(III)I"⟩, prog_13_method_53_code, 6, (some FieldType.int))
def i10_treePart : MI := (⟨"RuleNetModel", "treePart", "(II)I"⟩, prog_13_method_54_code, 5, (some FieldType.int))
def i10_holds : MI := (⟨"RuleNetModel", "holds", "(II)Z"⟩, prog_13_method_55_code, 4, (some FieldType.boolean))
def i10_goBack : MI := (⟨"RuleNetModel", "goBack", "()Z"⟩, prog_13_method_57_code, 5, (some FieldType.boolean))
def i10_orders : MI := (⟨"RuleNetModel", "orders", "(I)I"⟩, prog_13_method_51_code, 1, (some FieldType.int))
def i10_fit : MI := (⟨"RuleNetModel", "fit", "(I)I"⟩, prog_13_method_62_code, 5, (some FieldType.int))
def i10_isAhead : MI := (⟨"RuleNetModel", "isAhead", "(II)Z"⟩, prog_13_method_61_code, 3, (some FieldType.boolean))
def i10_fillings : MI := (⟨"RuleNetModel", "fillings", "(I)I"⟩, prog_13_method_63_code, 2, (some FieldType.int))
def i10_filling : MI := (⟨"RuleNetModel", "filling", "(III)I"⟩, prog_13_method_64_code, 4, (some FieldType.int))
def i10_asked : MI := (⟨"RuleNetModel", "asked", "(II)I"⟩, prog_13_method_65_code, 3, (some FieldType.int))
def i10_at : MI := (⟨"RuleNetModel", "at", "(II)I"⟩, prog_13_method_66_code, 3, (some FieldType.int))
def i10_found : MI := (⟨"RuleNetModel", "found", "(II)I"⟩, prog_13_method_67_code, 5, (some FieldType.int))
def i10_looks : MI := (⟨"RuleNetModel", "looks", "(I)I"⟩, prog_13_method_74_code, 6, (some FieldType.int))
def i10_goesWith : MI := (⟨"RuleNetModel", "goesWith", "(I)I"⟩, prog_13_method_73_code, 8, (some FieldType.int))
def i10_parts : MI := (⟨"RuleNetModel", "parts", "(II)I"⟩, prog_13_method_75_code, 4, (some FieldType.int))
def i10_shared : MI := (⟨"RuleNetModel", "shared", "(II)I"⟩, prog_13_method_76_code, 3, (some FieldType.int))
def i10_clash : MI := (⟨"RuleNetModel", "clash", "(II)I"⟩, prog_13_method_81_code, 4, (some FieldType.int))
def i10_meet : MI := (⟨"RuleNetModel", "meet", "(II)Z"⟩, prog_13_method_80_code, 9, (some FieldType.boolean))
def i10_canHole : MI := (⟨"RuleNetModel", "canHole", "(II)Z"⟩, prog_13_method_78_code, 8, (some FieldType.boolean))
def i10_hasHead : MI := (⟨"RuleNetModel", "hasHead", "(II)Z"⟩, prog_13_method_77_code, 5, (some FieldType.boolean))
def i10_canBe : MI := (⟨"RuleNetModel", "canBe", "(III)Z"⟩, prog_13_method_79_code, 6, (some FieldType.boolean))
def i10_print : MI := (⟨"RuleNetModel", "print", "(I)I"⟩, prog_13_method_87_code, 3, (some FieldType.int))
def i10_putHead : MI := (⟨"RuleNetModel", "putHead", "(I)V"⟩, prog_13_method_85_code, 2, none)
def i10_put : MI := (⟨"RuleNetModel", "put", "(I)V"⟩, prog_13_method_82_code, 2, none)
def i10_shutAll : MI := (⟨"RuleNetModel", "shutAll", "()V"⟩, prog_13_method_84_code, 2, none)
def i10_putNumber : MI := (⟨"RuleNetModel", "putNumber", "(J)V"⟩, prog_13_method_83_code, 7, none)
def i10_putHole : MI := (⟨"RuleNetModel", "putHole", "(I)V"⟩, prog_13_method_86_code, 2, none)
def i10_printNode : MI := (⟨"RuleNetModel", "printNode", "(I)I"⟩, prog_13_method_88_code, 3, (some FieldType.int))
def i10_out : MI := (⟨"RuleNetModel", "out", "(I)I"⟩, prog_13_method_89_code, 2, (some FieldType.int))
def i10_back : MI := (⟨"RuleNetModel", "back", "()I"⟩, prog_13_method_90_code, 3, (some FieldType.int))
def i12_ : MI := (⟨"java/lang/Math", "", ""⟩, ⟨#[]⟩, 0, none)
def cpf0 : List (Nat × Nat × Int × Nat × Nat) := [(11, 0, 0, 3, 20), (15, 0, 1, 0, 0), (19, 0, 2, 0, 0), (22, 0, 3, 1, 0), (26, 0, 4, 1, 0)]
def cpf1 : List (Nat × Nat × Int × Nat × Nat) := [(38, 5, 9, 0, 0), (47, 0, 1, 0, 0), (15, 1, 0, 3, 3), (19, 1, 1, 3, 5), (23, 1, 2, 3, 0), (9, 1, 3, 3, 20), (31, 1, 4, 0, 0), (35, 1, 5, 0, 0), (27, 1, 6, 4, 6)]
def cpf2 : List (Nat × Nat × Int × Nat × Nat) := [(11, 2, 0, 3, 20), (15, 2, 1, 3, 20), (18, 2, 2, 3, 20), (21, 2, 3, 3, 22), (25, 2, 4, 0, 0), (29, 2, 5, 0, 0), (49, 5, 0, 3, 20), (40, 5, 1, 3, 20)]
def cpf3 : List (Nat × Nat × Int × Nat × Nat) := [(80, 5, 0, 3, 20), (83, 5, 1, 3, 20), (160, 5, 2, 3, 20), (144, 5, 3, 3, 20), (166, 5, 4, 3, 22), (89, 5, 5, 3, 21), (150, 5, 8, 3, 20), (113, 0, 2, 0, 0), (116, 0, 3, 1, 0), (110, 0, 4, 1, 0), (41, 6, 0, 3, 5), (26, 3, 0, 3, 2), (30, 3, 1, 3, 5), (11, 3, 2, 3, 20), (17, 3, 3, 3, 20), (20, 3, 4, 3, 20), (23, 3, 5, 3, 20), (55, 3, 6, 0, 0), (34, 3, 7, 4, 5), (37, 3, 8, 4, 0), (46, 3, 9, 1, 0)]
def cpf4 : List (Nat × Nat × Int × Nat × Nat) := [(66, 5, 0, 3, 20), (69, 5, 1, 3, 20), (83, 5, 2, 3, 20), (79, 5, 4, 3, 22), (72, 5, 5, 3, 21), (76, 5, 6, 3, 21), (101, 5, 8, 3, 20), (40, 5, 9, 0, 0), (37, 6, 0, 3, 5), (86, 6, 1, 3, 20), (15, 4, 0, 3, 2), (19, 4, 1, 3, 5), (23, 4, 2, 3, 24), (9, 4, 3, 3, 20), (27, 4, 4, 0, 0)]
def cpf5 : List (Nat × Nat × Int × Nat × Nat) := [(15, 5, 0, 3, 20), (21, 5, 1, 3, 20), (24, 5, 2, 3, 20), (27, 5, 3, 3, 20), (30, 5, 4, 3, 22), (34, 5, 5, 3, 21), (38, 5, 6, 3, 21), (41, 5, 7, 3, 20), (44, 5, 8, 3, 20), (47, 5, 9, 0, 0)]
def cpf6 : List (Nat × Nat × Int × Nat × Nat) := [(70, 5, 0, 3, 20), (63, 5, 3, 3, 20), (31, 5, 9, 0, 0), (14, 6, 0, 3, 5), (20, 6, 1, 3, 20), (27, 6, 2, 3, 0), (46, 6, 3, 1, 0), (43, 6, 4, 0, 0), (50, 6, 5, 0, 0), (53, 6, 6, 0, 0), (56, 6, 7, 0, 0)]
def cpf7 : List (Nat × Nat × Int × Nat × Nat) := [(103, 2, 2, 3, 20), (61, 8, 0, 3, 20), (52, 8, 1, 0, 0), (100, 5, 1, 3, 20), (140, 5, 2, 3, 20), (127, 5, 3, 3, 20), (143, 5, 4, 3, 22), (116, 5, 5, 3, 21), (150, 5, 6, 3, 21), (40, 5, 9, 0, 0), (9, 7, 0, 3, 2), (15, 7, 1, 3, 8), (19, 7, 2, 3, 5), (27, 7, 3, 1, 0), (31, 7, 4, 0, 0), (34, 7, 5, 0, 0), (65, 7, 6, 2, 0), (37, 7, 7, 0, 0), (23, 7, 8, 0, 0)]
def cpf8 : List (Nat × Nat × Int × Nat × Nat) := [(15, 8, 0, 3, 20), (21, 8, 1, 0, 0)]
def cpf9 : List (Nat × Nat × Int × Nat × Nat) := [(162, 2, 4, 0, 0), (165, 2, 5, 0, 0), (112, 8, 1, 0, 0), (197, 5, 1, 3, 20), (200, 5, 5, 3, 21), (204, 5, 7, 3, 20), (156, 5, 8, 3, 20), (145, 5, 9, 0, 0), (228, 0, 1, 0, 0), (233, 0, 2, 0, 0), (236, 0, 3, 1, 0), (239, 0, 4, 1, 0), (179, 6, 0, 3, 5), (225, 6, 2, 3, 0), (138, 6, 3, 1, 0), (176, 6, 4, 0, 0), (186, 6, 5, 0, 0), (189, 6, 6, 0, 0), (192, 6, 7, 0, 0), (159, 7, 8, 0, 0), (283, 1, 6, 4, 6), (257, 4, 4, 0, 0), (10, 9, 0, 3, 2), (21, 9, 1, 3, 8), (25, 9, 2, 3, 8), (31, 9, 3, 3, 5), (35, 9, 4, 3, 5), (40, 9, 5, 3, 24), (57, 9, 6, 3, 7), (66, 9, 7, 3, 3), (84, 9, 8, 3, 4), (75, 9, 9, 3, 1), (48, 9, 10, 3, 0), (88, 9, 11, 3, 20), (222, 9, 12, 0, 0), (216, 9, 13, 1, 0)]
def cpf10 : List (Nat × Nat × Int × Nat × Nat) := [(7, 10, 0, 0, 0), (13, 10, 1, 3, 20), (196, 10, 2, 0, 0), (17, 10, 3, 3, 20), (20, 10, 4, 3, 20), (23, 10, 5, 3, 22), (27, 10, 6, 3, 23), (199, 10, 7, 0, 0), (31, 10, 8, 3, 20), (34, 10, 9, 3, 20), (37, 10, 10, 3, 21), (41, 10, 11, 3, 20), (44, 10, 12, 3, 20), (47, 10, 13, 3, 22), (50, 10, 14, 3, 21), (53, 10, 15, 3, 21), (56, 10, 16, 3, 20), (236, 10, 17, 0, 0), (239, 10, 18, 0, 0), (276, 10, 19, 1, 0), (212, 10, 20, 0, 0), (206, 10, 21, 0, 0), (209, 10, 22, 0, 0), (59, 10, 23, 0, 0), (250, 10, 24, 0, 0), (62, 10, 25, 3, 20), (65, 10, 26, 3, 20), (253, 10, 27, 0, 0), (294, 10, 28, 1, 0), (68, 10, 29, 3, 22), (71, 10, 30, 3, 20), (74, 10, 31, 3, 20), (77, 10, 32, 3, 20), (80, 10, 33, 3, 20), (83, 10, 34, 3, 21), (86, 10, 35, 3, 20), (89, 10, 36, 3, 20), (92, 10, 37, 3, 22), (95, 10, 38, 3, 21), (98, 10, 39, 3, 21), (101, 10, 40, 3, 20), (302, 10, 41, 0, 0), (317, 10, 42, 0, 0), (104, 10, 43, 3, 20), (107, 10, 44, 3, 21), (110, 10, 45, 3, 20), (113, 10, 46, 3, 20), (309, 10, 47, 1, 0), (116, 10, 48, 3, 20), (119, 10, 49, 3, 20), (122, 10, 50, 3, 20), (356, 10, 51, 0, 0), (125, 10, 52, 3, 20), (128, 10, 53, 3, 20), (131, 10, 54, 3, 20), (134, 10, 55, 3, 20), (137, 10, 56, 3, 20), (140, 10, 57, 3, 20), (143, 10, 58, 3, 20), (146, 10, 59, 3, 20), (359, 10, 60, 0, 0), (379, 10, 61, 0, 0), (382, 10, 62, 1, 0), (402, 10, 63, 1, 0), (399, 10, 64, 0, 0), (149, 10, 65, 3, 20), (376, 10, 66, 0, 0), (152, 10, 67, 3, 20), (155, 10, 68, 3, 20), (158, 10, 69, 3, 20), (161, 10, 70, 3, 22), (164, 10, 71, 3, 22), (167, 10, 72, 3, 20), (437, 10, 73, 0, 0), (170, 10, 74, 3, 20), (173, 10, 75, 3, 23), (336, 10, 76, 0, 0), (176, 10, 77, 3, 20), (179, 10, 78, 3, 20), (462, 10, 79, 0, 0)]
def cpf11 : List (Nat × Nat × Int × Nat × Nat) := [(9, 8, 1, 0, 0), (35, 5, 0, 3, 20), (42, 5, 1, 3, 20), (59, 5, 2, 3, 20), (56, 5, 3, 3, 20), (62, 5, 4, 3, 22), (45, 5, 5, 3, 21), (66, 5, 6, 3, 21), (69, 5, 7, 3, 20), (21, 5, 8, 3, 20)]
def cpf12 : List (Nat × Nat × Int × Nat × Nat) := []
def cpf13 : List (Nat × Nat × Int × Nat × Nat) := []
def cpfL : Nat → List (Nat × Nat × Int × Nat × Nat) := fun t => match t with
  | 0 => cpf0
  | 1 => cpf1
  | 2 => cpf2
  | 3 => cpf3
  | 4 => cpf4
  | 5 => cpf5
  | 6 => cpf6
  | 7 => cpf7
  | 8 => cpf8
  | 9 => cpf9
  | 10 => cpf10
  | 11 => cpf11
  | 12 => cpf12
  | _ => cpf13
/-- a field reference of an owner: class, field, kind, type -/
def cpf (own idx : Nat) : Option (Nat × Int × Nat × Nat) := (cpfL own).lookup idx
/-- a method reference: kind (0 virtual, 1 static, 2 a constructor, 3 a nest mate's constructor), parts with the receiver, kind of answer, receiver's class, the method -/
def cpm0 : List (Nat × Nat × Nat × Nat × Nat × MI) := [(33, 0, 2, 1, 0, i0_holds),
  (29, 0, 3, 1, 0, i0_nodeOf)]
def cpm1 : List (Nat × Nat × Nat × Nat × Nat × MI) := [(41, 0, 5, 0, 3, i3_run)]
def cpm2 : List (Nat × Nat × Nat × Nat × Nat × MI) := [(32, 0, 2, 1, 2, i2_hasKind),
  (45, 0, 2, 1, 2, i2_hasHead),
  (36, 0, 3, 1, 2, i2_isBelow)]
def cpm3 : List (Nat × Nat × Nat × Nat × Nat × MI) := [(50, 0, 1, 0, 0, i0_clear),
  (59, 0, 4, 1, 3, i3_chain),
  (63, 0, 3, 1, 3, i3_walk),
  (67, 0, 1, 1, 3, i3_keepFilling),
  (106, 0, 2, 0, 0, i0_keep),
  (71, 0, 1, 1, 3, i3_mayTry),
  (74, 0, 2, 1, 5, i5_has),
  (86, 0, 3, 1, 3, i3_walkParts),
  (119, 0, 3, 1, 2, i2_partsOfNode),
  (123, 0, 3, 1, 2, i2_isLooseNode),
  (130, 0, 4, 1, 3, i3_chainParts),
  (136, 0, 3, 1, 5, i5_partOf),
  (93, 0, 3, 1, 3, i3_isNumber),
  (97, 0, 3, 1, 3, i3_walkHole),
  (140, 1, 5, 1, 0, i3_fitsHole),
  (157, 0, 3, 1, 2, i2_kindOfNode),
  (163, 0, 3, 1, 2, i2_isBelow),
  (170, 0, 3, 1, 5, i5_spanHolds),
  (147, 0, 3, 1, 5, i5_areAlike),
  (100, 0, 3, 1, 3, i3_walkBelow),
  (153, 0, 5, 1, 3, i3_walkFrom),
  (103, 0, 3, 1, 3, i3_walkNowhere)]
def cpm4 : List (Nat × Nat × Nat × Nat × Nat × MI) := [(31, 0, 1, 1, 6, i6_isInNet),
  (45, 0, 2, 1, 4, i4_stepsOfOthers),
  (49, 0, 3, 1, 4, i4_likeMarks),
  (59, 5, 2, 1, 0, i12_),
  (62, 0, 4, 1, 4, i4_isLikeMark),
  (53, 4, 2, 1, 0, i12_),
  (89, 0, 2, 1, 4, i4_marksThatGo),
  (93, 0, 2, 1, 5, i5_has),
  (97, 0, 4, 1, 4, i4_goes),
  (104, 1, 5, 1, 0, i3_fitsHole),
  (110, 0, 3, 1, 5, i5_areAlike),
  (114, 0, 5, 1, 4, i4_agree),
  (118, 0, 5, 1, 4, i4_holesAgree),
  (124, 0, 3, 1, 2, i2_isBelow),
  (129, 0, 2, 1, 2, i2_someHeadBelow),
  (132, 6, 2, 2, 0, i12_),
  (135, 0, 3, 1, 5, i5_spanHolds),
  (121, 0, 5, 1, 4, i4_holeTakes)]
def cpm5 : List (Nat × Nat × Nat × Nat × Nat × MI) := [(9, 4, 2, 1, 0, i12_),
  (51, 0, 4, 0, 5, i5_put),
  (55, 0, 3, 1, 2, i2_partsOfNode),
  (61, 0, 2, 1, 5, i5_has)]
def cpm6 : List (Nat × Nat × Nat × Nat × Nat × MI) := [(11, 2, 2, 0, 5, i5_init),
  (26, 3, 1, 0, 0, i0_init),
  (35, 0, 4, 0, 5, i5_replace),
  (39, 0, 2, 0, 5, i5_link),
  (59, 0, 2, 1, 6, i6_holesAheadOfFirst),
  (66, 0, 3, 1, 6, i6_isWild),
  (73, 0, 3, 1, 2, i2_isLooseNode)]
def cpm7 : List (Nat × Nat × Nat × Nat × Nat × MI) := [(45, 0, 2, 1, 7, i7_readNode),
  (49, 0, 1, 0, 7, i7_skipBlanks),
  (71, 0, 2, 1, 8, i8_byteAt),
  (57, 0, 3, 1, 7, i7_fail),
  (75, 0, 3, 1, 7, i7_readHead),
  (91, 0, 2, 1, 2, i2_hasHead),
  (96, 0, 3, 1, 7, i7_addNode),
  (88, 0, 2, 1, 5, i5_add),
  (106, 0, 3, 1, 7, i7_readParts),
  (109, 0, 2, 1, 7, i7_readBehindPart),
  (78, 0, 1, 1, 7, i7_readNumberNode),
  (113, 0, 1, 1, 7, i7_readNumber),
  (120, 0, 2, 1, 7, i7_endOfDigits),
  (123, 0, 3, 0, 7, i7_takeDigits),
  (82, 0, 1, 1, 7, i7_readHole),
  (130, 0, 2, 1, 7, i7_readKind),
  (136, 0, 2, 1, 2, i2_hasKind),
  (133, 0, 2, 1, 7, i7_readSpan),
  (147, 0, 2, 1, 7, i7_passSign),
  (85, 0, 3, 1, 7, i7_readOver)]
def cpm8 : List (Nat × Nat × Nat × Nat × Nat × MI) := [(9, 4, 2, 1, 0, i12_),
  (25, 0, 2, 0, 8, i8_add),
  (29, 7, 1, 2, 0, i12_)]
def cpm9 : List (Nat × Nat × Nat × Nat × Nat × MI) := [(9, 2, 1, 0, 2, i2_init),
  (18, 2, 2, 0, 8, i8_init),
  (30, 2, 2, 0, 5, i5_init),
  (44, 3, 1, 0, 6, i6_init),
  (47, 3, 1, 0, 0, i0_init),
  (54, 2, 4, 0, 7, i7_init),
  (63, 2, 4, 0, 3, i3_init),
  (72, 2, 4, 0, 1, i1_init),
  (81, 2, 4, 0, 4, i4_init),
  (92, 0, 2, 1, 2, i2_hasKind),
  (96, 0, 2, 1, 2, i2_addKind),
  (100, 0, 3, 1, 2, i2_isBelow),
  (104, 1, 1, 1, 0, i9_asInt),
  (108, 0, 4, 1, 2, i2_addHead),
  (116, 0, 2, 0, 8, i8_addFour),
  (119, 0, 1, 1, 9, i9_freeNumber),
  (123, 0, 3, 1, 7, i7_read),
  (127, 0, 4, 0, 6, i6_take),
  (131, 0, 1, 0, 9, i9_forgetAnswers),
  (134, 0, 2, 9, 9, i9_patternOf),
  (142, 0, 1, 1, 9, i9_presentPatterns),
  (148, 0, 3, 1, 9, i9_replaceInTree),
  (287, 0, 4, 0, 5, i5_replace),
  (291, 0, 2, 0, 5, i5_link),
  (152, 0, 2, 1, 5, i5_has),
  (167, 0, 1, 1, 4, i4_patternsIn),
  (170, 0, 1, 1, 4, i4_stepsIn),
  (173, 0, 1, 1, 4, i4_marksIn),
  (182, 0, 1, 1, 6, i6_isInNet),
  (207, 0, 3, 1, 2, i2_kindOfNode),
  (213, 0, 3, 1, 5, i5_areAlike),
  (219, 0, 1, 0, 9, i9_askAll),
  (242, 0, 5, 0, 3, i3_run),
  (295, 0, 2, 0, 9, i9_addFitting),
  (229, 0, 2, 1, 0, i0_has),
  (230, 0, 3, 1, 0, i0_nodeOf),
  (246, 0, 3, 1, 1, i1_nodeFound),
  (250, 0, 2, 1, 4, i4_looksAtTree),
  (253, 0, 2, 1, 4, i4_marksThatGo),
  (260, 0, 3, 1, 4, i4_likeMarks),
  (264, 0, 1, 1, 6, i6_hasNameTwice),
  (267, 0, 3, 1, 4, i4_haveTreeInCommon),
  (271, 1, 3, 1, 0, i11_write),
  (277, 0, 2, 1, 8, i8_byteAt),
  (280, 0, 2, 0, 8, i8_add)]
def cpm10 : List (Nat × Nat × Nat × Nat × Nat × MI) := [(186, 0, 2, 1, 10, i10_noKind),
  (182, 1, 3, 1, 0, i10_in),
  (190, 0, 3, 1, 10, i10_lies),
  (202, 0, 2, 0, 10, i10_four),
  (305, 0, 3, 0, 10, i10_read),
  (242, 0, 1, 1, 10, i10_fine),
  (297, 0, 1, 0, 10, i10_readNode),
  (256, 0, 1, 0, 10, i10_blanks),
  (224, 0, 1, 1, 10, i10_here),
  (263, 0, 2, 0, 10, i10_readLetter),
  (232, 0, 3, 0, 10, i10_wrong),
  (270, 0, 2, 1, 10, i10_newNode),
  (283, 0, 1, 0, 10, i10_deeper),
  (286, 0, 2, 0, 10, i10_push),
  (273, 0, 2, 0, 10, i10_ended),
  (219, 1, 1, 1, 0, i10_isDigit),
  (266, 0, 2, 2, 10, i10_number),
  (228, 0, 2, 1, 10, i10_digitsFrom),
  (246, 0, 2, 2, 10, i10_digits),
  (280, 0, 1, 0, 10, i10_readHole),
  (289, 0, 2, 0, 10, i10_readSpan),
  (291, 0, 2, 0, 10, i10_take),
  (314, 0, 2, 1, 10, i10_noPattern),
  (320, 0, 1, 0, 10, i10_findUps),
  (323, 0, 2, 1, 10, i10_noNode),
  (329, 0, 2, 1, 10, i10_netSize),
  (339, 0, 2, 1, 10, i10_inNet),
  (326, 0, 2, 1, 10, i10_oddOf),
  (333, 0, 1, 1, 10, i10_steps),
  (434, 0, 3, 1, 10, i10_isNew),
  (431, 0, 3, 1, 10, i10_common),
  (427, 0, 4, 1, 10, i10_areMarksLike),
  (424, 0, 3, 1, 10, i10_againOf),
  (342, 0, 3, 1, 10, i10_namesOf),
  (348, 0, 2, 1, 10, i10_kindOf),
  (353, 0, 3, 1, 10, i10_areAlike),
  (414, 0, 3, 0, 10, i10_fitAll),
  (373, 0, 4, 1, 10, i10_goal),
  (405, 0, 1, 0, 10, i10_keep),
  (408, 0, 1, 1, 10, i10_doGoal),
  (385, 0, 6, 0, 10, i10_choose),
  (389, 0, 5, 1, 10, i10_partsBy),
  (362, 0, 3, 0, 10, i10_order),
  (365, 0, 4, 1, 10, i10_partOf),
  (369, 0, 3, 1, 10, i10_treePart),
  (393, 0, 3, 1, 10, i10_holds),
  (411, 0, 1, 1, 10, i10_goBack),
  (396, 1, 1, 1, 0, i10_orders),
  (417, 0, 3, 1, 10, i10_isAhead),
  (440, 0, 2, 1, 10, i10_goesWith),
  (456, 0, 3, 1, 10, i10_meet),
  (450, 0, 3, 1, 10, i10_canHole),
  (447, 0, 3, 1, 10, i10_hasHead),
  (453, 0, 4, 1, 10, i10_canBe),
  (472, 0, 2, 0, 10, i10_putHead),
  (459, 0, 2, 0, 10, i10_put),
  (465, 0, 1, 0, 10, i10_shutAll),
  (468, 0, 2, 0, 10, i10_putNumber),
  (475, 0, 2, 0, 10, i10_putHole)]
def cpm11 : List (Nat × Nat × Nat × Nat × Nat × MI) := [(15, 0, 2, 1, 5, i5_has),
  (25, 1, 3, 0, 0, i11_writeNode),
  (38, 0, 2, 0, 8, i8_add),
  (49, 0, 2, 0, 8, i8_addNumber),
  (53, 1, 3, 0, 0, i11_writeHole),
  (31, 1, 4, 0, 0, i11_writeBehind)]
def cpm12 : List (Nat × Nat × Nat × Nat × Nat × MI) := []
def cpm13 : List (Nat × Nat × Nat × Nat × Nat × MI) := [(9, 2, 1, 0, 9, i9_init),
  (13, 0, 2, 1, 9, i9_kind),
  (18, 0, 3, 1, 9, i9_isUnder),
  (23, 0, 4, 1, 9, i9_head),
  (28, 0, 6, 1, 9, i9_feed),
  (33, 0, 2, 1, 9, i9_cut),
  (37, 0, 2, 1, 9, i9_pattern),
  (41, 0, 2, 1, 9, i9_drop),
  (45, 0, 1, 1, 9, i9_tree),
  (50, 0, 2, 1, 9, i9_change),
  (54, 0, 1, 1, 9, i9_place),
  (58, 0, 2, 1, 9, i9_count),
  (62, 0, 3, 1, 9, i9_told),
  (66, 0, 3, 2, 9, i9_node),
  (71, 0, 3, 1, 9, i9_alike),
  (75, 0, 1, 1, 9, i9_ask),
  (79, 0, 2, 1, 9, i9_fit),
  (83, 0, 2, 1, 9, i9_fillings),
  (87, 0, 4, 1, 9, i9_filling),
  (92, 0, 3, 1, 9, i9_asked),
  (96, 0, 3, 1, 9, i9_at),
  (100, 0, 3, 1, 9, i9_found),
  (104, 0, 2, 1, 9, i9_looks),
  (108, 0, 3, 1, 9, i9_parts),
  (112, 0, 3, 1, 9, i9_shared),
  (116, 0, 3, 1, 9, i9_clash),
  (120, 0, 2, 1, 9, i9_print),
  (124, 0, 2, 1, 9, i9_printNode),
  (128, 0, 2, 1, 9, i9_out),
  (132, 0, 1, 1, 9, i9_back),
  (12, 2, 1, 0, 10, i10_init),
  (17, 0, 2, 1, 10, i10_kind),
  (22, 0, 3, 1, 10, i10_isUnder),
  (27, 0, 4, 1, 10, i10_head),
  (32, 0, 6, 1, 10, i10_feed),
  (36, 0, 2, 1, 10, i10_cut),
  (57, 0, 1, 1, 10, i10_place),
  (40, 0, 2, 1, 10, i10_pattern),
  (44, 0, 2, 1, 10, i10_drop),
  (49, 0, 1, 1, 10, i10_tree),
  (53, 0, 2, 1, 10, i10_change),
  (61, 0, 2, 1, 10, i10_count),
  (65, 0, 3, 1, 10, i10_told),
  (70, 0, 3, 2, 10, i10_node),
  (74, 0, 3, 1, 10, i10_alike),
  (78, 0, 1, 1, 10, i10_ask),
  (82, 0, 2, 1, 10, i10_fit),
  (86, 0, 2, 1, 10, i10_fillings),
  (91, 0, 4, 1, 10, i10_filling),
  (95, 0, 3, 1, 10, i10_asked),
  (99, 0, 3, 1, 10, i10_at),
  (103, 0, 3, 1, 10, i10_found),
  (107, 0, 2, 1, 10, i10_looks),
  (111, 0, 3, 1, 10, i10_parts),
  (115, 0, 3, 1, 10, i10_shared),
  (119, 0, 3, 1, 10, i10_clash),
  (123, 0, 2, 1, 10, i10_print),
  (127, 0, 2, 1, 10, i10_printNode),
  (131, 0, 2, 1, 10, i10_out),
  (135, 0, 1, 1, 10, i10_back)]
def cpmL : Nat → List (Nat × Nat × Nat × Nat × Nat × MI) := fun t => match t with
  | 0 => cpm0
  | 1 => cpm1
  | 2 => cpm2
  | 3 => cpm3
  | 4 => cpm4
  | 5 => cpm5
  | 6 => cpm6
  | 7 => cpm7
  | 8 => cpm8
  | 9 => cpm9
  | 10 => cpm10
  | 11 => cpm11
  | 12 => cpm12
  | _ => cpm13
def cpm (own idx : Nat) : Option (Nat × Nat × Nat × Nat × MI) := (cpmL own).lookup idx
/-- Object.<init>: owner * 1000 + entry -/
def cpoL : List (Nat × Nat) := [(3, 0), (1003, 0), (2003, 0), (3005, 0), (4003, 0), (5003, 0), (6003, 0), (7003, 0), (8003, 0), (9001, 0), (10001, 0)]
/-- arraycopy -/
def cpaL : List (Nat × Nat) := [(37, 0)]
/-- classes: entry, class -/
def cpcL : List (Nat × Nat) := [(6009, 5), (6024, 0), (9007, 2), (9016, 8), (9028, 5), (9038, 6), (9045, 0), (9052, 7), (9061, 3), (9070, 1), (9079, 4), (13007, 9), (13010, 10)]
/-- long constants -/
def cplL : List (Nat × Int) := [(7069, 10), (8035, 10), (9195, (-1001)), (9211, (-1002)), (10194, 4), (10300, 1000), (10259, 97), (10261, 122), (10215, 48), (10217, 57), (10222, 10), (10312, 39), (10346, (-1001)), (10351, (-1002)), (10420, 9), (10422, 2), (10443, (-1000000000000000000)), (10445, 1000000000000000000)]
/-- static arrays -/
def cpsL : List (Nat × Int) := [(3127, 2), (3133, 3)]
def cpc (own idx : Nat) : Option Nat := cpcL.lookup (own * 1000 + idx)
def cpl (own idx : Nat) : Option Int := cplL.lookup (own * 1000 + idx)
def cps (own idx : Nat) : Option Int := cpsL.lookup (own * 1000 + idx)
def cpo (own idx : Nat) : Option Nat := cpoL.lookup (own * 1000 + idx)
def cpa (own idx : Nat) : Option Nat := cpaL.lookup (own * 1000 + idx)
