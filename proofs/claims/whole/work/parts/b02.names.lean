def RF : String := "CellForge"
def FF : List (String × String × String × Bool) := [("CellForge", "text", "LCellForge$Text;", true), ("CellForge", "functions", "LCellForge$Functions;", true), ("CellForge", "cuts", "LCellForge$Cuts;", true), ("CellForge", "cone", "LCellForge$Cone;", true), ("CellForge", "remaker", "LCellForge$Remaker;", true), ("CellForge", "cells", "LCellForge$Cover;", true), ("CellForge", "mapping", "LCellForge$Mapping;", true), ("CellForge", "coverScript", "LCellForge$Script;", true), ("CellForge", "mappedScript", "LCellForge$Script;", true), ("CellForge", "netlist", "LCellForge$Netlist;", false), ("CellForge", "spareNetlist", "LCellForge$Netlist;", false), ("CellForge", "nodes", "LCellForge$Graph;", false), ("CellForge", "spareNodes", "LCellForge$Graph;", false), ("CellForge", "kit", "LCellForge$Library;", false), ("CellForge", "spareKit", "LCellForge$Library;", false), ("CellForge", "faultLine", "I", false), ("CellForge", "hasNetlist", "Z", false), ("CellForge", "hasCover", "Z", false), ("CellForge", "hasMapping", "Z", false)]
def TF : u_T := fun k => FF.getD k ("", "", "", false)
def tyF : Nat → FieldType := fun k => ([.object "CellForge$Text", .object "CellForge$Functions", .object "CellForge$Cuts", .object "CellForge$Cone", .object "CellForge$Remaker", .object "CellForge$Cover", .object "CellForge$Mapping", .object "CellForge$Script", .object "CellForge$Script", .object "CellForge$Netlist", .object "CellForge$Netlist", .object "CellForge$Graph", .object "CellForge$Graph", .object "CellForge$Library", .object "CellForge$Library", .int, .boolean, .boolean, .boolean] : List FieldType).getD k .int
theorem nmF : ∀ a, a < 19 → ∀ b, b < 19 → a ≠ b → (TF a).2.1 ≠ (TF b).2.1 := by decide +kernel
theorem tyokF : ∀ k, k < 19 → parseFieldDescriptor (TF k).2.2.1 = some (tyF k) := by decide +kernel
set_option maxRecDepth 100000 in
theorem inF : ∀ w ∈ u_ws RF TF 19, w ∈ cfB := cf_ins [680, 682, 684, 686, 688, 690, 692, 694, 696, 698, 700, 702, 704, 706, 708, 710, 712, 714, 716] (by decide +kernel) (by decide +kernel)
def RTx : String := "CellForge$Text"
def FTx : List (String × String × String × Bool) := [("CellForge$Text", "signs", "[B", true), ("CellForge$Text", "from", "[I", true), ("CellForge$Text", "to", "[I", true), ("CellForge$Text", "size", "I", false), ("CellForge$Text", "number", "I", false), ("CellForge$Text", "words", "I", false), ("CellForge$Text", "next", "I", false)]
def TTx : u_T := fun k => FTx.getD k ("", "", "", false)
def tyTx : Nat → FieldType := fun k => ([.array (.byte), .array (.int), .array (.int), .int, .int, .int, .int] : List FieldType).getD k .int
theorem nmTx : ∀ a, a < 7 → ∀ b, b < 7 → a ≠ b → (TTx a).2.1 ≠ (TTx b).2.1 := by decide +kernel
theorem tyokTx : ∀ k, k < 7 → parseFieldDescriptor (TTx k).2.2.1 = some (tyTx k) := by decide +kernel
set_option maxRecDepth 100000 in
theorem inTx : ∀ w ∈ u_ws RTx TTx 7, w ∈ cfB := cf_ins [217, 219, 221, 223, 225, 227, 229] (by decide +kernel) (by decide +kernel)
def RNl : String := "CellForge$Netlist"
def FNl : List (String × String × String × Bool) := [("CellForge$Netlist", "inputs", "I", false), ("CellForge$Netlist", "outputs", "I", false), ("CellForge$Netlist", "faultLine", "I", false), ("CellForge$Netlist", "inputNames", "[J", true), ("CellForge$Netlist", "outputNames", "[J", true), ("CellForge$Netlist", "outputLine", "I", false), ("CellForge$Netlist", "tables", "I", false), ("CellForge$Netlist", "names", "[J", true), ("CellForge$Netlist", "widths", "[I", true), ("CellForge$Netlist", "lines", "[I", true), ("CellForge$Netlist", "rowCounts", "[I", true), ("CellForge$Netlist", "rowEnds", "[I", true), ("CellForge$Netlist", "rows", "[I", true), ("CellForge$Netlist", "sources", "[I", true), ("CellForge$Netlist", "outputSources", "[I", true), ("CellForge$Netlist", "reached", "[I", true), ("CellForge$Netlist", "literals", "[I", true)]
def TNl : u_T := fun k => FNl.getD k ("", "", "", false)
def tyNl : Nat → FieldType := fun k => ([.int, .int, .int, .array (.long), .array (.long), .int, .int, .array (.long), .array (.int), .array (.int), .array (.int), .array (.int), .array (.int), .array (.int), .array (.int), .array (.int), .array (.int)] : List FieldType).getD k .int
theorem nmNl : ∀ a, a < 17 → ∀ b, b < 17 → a ≠ b → (TNl a).2.1 ≠ (TNl b).2.1 := by decide +kernel
theorem tyokNl : ∀ k, k < 17 → parseFieldDescriptor (TNl k).2.2.1 = some (tyNl k) := by decide +kernel
set_option maxRecDepth 100000 in
theorem inNl : ∀ w ∈ u_ws RNl TNl 17, w ∈ cfB := cf_ins [505, 507, 509, 511, 513, 515, 517, 519, 521, 523, 525, 527, 529, 531, 533, 535, 537] (by decide +kernel) (by decide +kernel)
def RGr : String := "CellForge$Graph"
def FGr : List (String × String × String × Bool) := [("CellForge$Graph", "inputs", "I", false), ("CellForge$Graph", "outputs", "I", false), ("CellForge$Graph", "gates", "I", false), ("CellForge$Graph", "full", "Z", false), ("CellForge$Graph", "low", "[I", true), ("CellForge$Graph", "high", "[I", true), ("CellForge$Graph", "level", "[I", true), ("CellForge$Graph", "results", "[I", true), ("CellForge$Graph", "first", "[I", true), ("CellForge$Graph", "chain", "[I", true)]
def TGr : u_T := fun k => FGr.getD k ("", "", "", false)
def tyGr : Nat → FieldType := fun k => ([.int, .int, .int, .boolean, .array (.int), .array (.int), .array (.int), .array (.int), .array (.int), .array (.int)] : List FieldType).getD k .int
theorem nmGr : ∀ a, a < 10 → ∀ b, b < 10 → a ≠ b → (TGr a).2.1 ≠ (TGr b).2.1 := by decide +kernel
theorem tyokGr : ∀ k, k < 10 → parseFieldDescriptor (TGr k).2.2.1 = some (tyGr k) := by decide +kernel
set_option maxRecDepth 100000 in
theorem inGr : ∀ w ∈ u_ws RGr TGr 10, w ∈ cfB := cf_ins [583, 585, 587, 589, 591, 593, 595, 597, 599, 601] (by decide +kernel) (by decide +kernel)
def RFu : String := "CellForge$Functions"
def FFu : List (String × String × String × Bool) := [("CellForge$Functions", "known", "Z", false), ("CellForge$Functions", "bits", "[J", true), ("CellForge$Functions", "parts", "[I", true), ("CellForge$Functions", "zeroParts", "[I", true), ("CellForge$Functions", "oneParts", "[I", true)]
def TFu : u_T := fun k => FFu.getD k ("", "", "", false)
def tyFu : Nat → FieldType := fun k => ([.boolean, .array (.long), .array (.int), .array (.int), .array (.int)] : List FieldType).getD k .int
theorem nmFu : ∀ a, a < 5 → ∀ b, b < 5 → a ≠ b → (TFu a).2.1 ≠ (TFu b).2.1 := by decide +kernel
theorem tyokFu : ∀ k, k < 5 → parseFieldDescriptor (TFu k).2.2.1 = some (tyFu k) := by decide +kernel
set_option maxRecDepth 100000 in
theorem inFu : ∀ w ∈ u_ws RFu TFu 5, w ∈ cfB := cf_ins [246, 248, 250, 252, 254] (by decide +kernel) (by decide +kernel)
def RCu : String := "CellForge$Cuts"
def FCu : List (String × String × String × Bool) := [("CellForge$Cuts", "most", "I", false), ("CellForge$Cuts", "depth", "[I", true), ("CellForge$Cuts", "start", "[I", true), ("CellForge$Cuts", "used", "I", false), ("CellForge$Cuts", "pool", "[J", false), ("CellForge$Cuts", "marks", "[J", false)]
def TCu : u_T := fun k => FCu.getD k ("", "", "", false)
def tyCu : Nat → FieldType := fun k => ([.int, .array (.int), .array (.int), .int, .array (.long), .array (.long)] : List FieldType).getD k .int
theorem nmCu : ∀ a, a < 6 → ∀ b, b < 6 → a ≠ b → (TCu a).2.1 ≠ (TCu b).2.1 := by decide +kernel
theorem tyokCu : ∀ k, k < 6 → parseFieldDescriptor (TCu k).2.2.1 = some (tyCu k) := by decide +kernel
set_option maxRecDepth 100000 in
theorem inCu : ∀ w ∈ u_ws RCu TCu 6, w ∈ cfB := cf_ins [272, 274, 276, 278, 280, 282] (by decide +kernel) (by decide +kernel)
def RCo : String := "CellForge$Cone"
def FCo : List (String × String × String × Bool) := [("CellForge$Cone", "size", "I", false), ("CellForge$Cone", "table", "I", false), ("CellForge$Cone", "nodes", "[I", true), ("CellForge$Cone", "side", "[I", true), ("CellForge$Cone", "values", "[I", true)]
def TCo : u_T := fun k => FCo.getD k ("", "", "", false)
def tyCo : Nat → FieldType := fun k => ([.int, .int, .array (.int), .array (.int), .array (.int)] : List FieldType).getD k .int
theorem nmCo : ∀ a, a < 5 → ∀ b, b < 5 → a ≠ b → (TCo a).2.1 ≠ (TCo b).2.1 := by decide +kernel
theorem tyokCo : ∀ k, k < 5 → parseFieldDescriptor (TCo k).2.2.1 = some (tyCo k) := by decide +kernel
set_option maxRecDepth 100000 in
theorem inCo : ∀ w ∈ u_ws RCo TCo 5, w ∈ cfB := cf_ins [303, 305, 307, 309, 311] (by decide +kernel) (by decide +kernel)
def RRe : String := "CellForge$Remaker"
def FRe : List (String × String × String × Bool) := [("CellForge$Remaker", "needed", "[Z", true), ("CellForge$Remaker", "uses", "[I", true), ("CellForge$Remaker", "usesBetween", "[I", true), ("CellForge$Remaker", "isApart", "[Z", true), ("CellForge$Remaker", "fresh", "[I", true), ("CellForge$Remaker", "waiting", "[I", true), ("CellForge$Remaker", "row", "[I", true), ("CellForge$Remaker", "rowSize", "I", false), ("CellForge$Remaker", "productBits", "[I", true), ("CellForge$Remaker", "productNodes", "[I", true), ("CellForge$Remaker", "sum", "[I", true), ("CellForge$Remaker", "sumSize", "I", false)]
def TRe : u_T := fun k => FRe.getD k ("", "", "", false)
def tyRe : Nat → FieldType := fun k => ([.array (.boolean), .array (.int), .array (.int), .array (.boolean), .array (.int), .array (.int), .array (.int), .int, .array (.int), .array (.int), .array (.int), .int] : List FieldType).getD k .int
theorem nmRe : ∀ a, a < 12 → ∀ b, b < 12 → a ≠ b → (TRe a).2.1 ≠ (TRe b).2.1 := by decide +kernel
theorem tyokRe : ∀ k, k < 12 → parseFieldDescriptor (TRe k).2.2.1 = some (tyRe k) := by decide +kernel
set_option maxRecDepth 100000 in
theorem inRe : ∀ w ∈ u_ws RRe TRe 12, w ∈ cfB := cf_ins [337, 339, 341, 343, 345, 347, 349, 351, 353, 355, 357, 359] (by decide +kernel) (by decide +kernel)
def RCv : String := "CellForge$Cover"
def FCv : List (String × String × String × Bool) := [("CellForge$Cover", "size", "I", false), ("CellForge$Cover", "greatest", "I", false), ("CellForge$Cover", "gates", "[I", true), ("CellForge$Cover", "tables", "[I", true), ("CellForge$Cover", "depths", "[I", true), ("CellForge$Cover", "taken", "[J", true), ("CellForge$Cover", "times", "[I", true)]
def TCv : u_T := fun k => FCv.getD k ("", "", "", false)
def tyCv : Nat → FieldType := fun k => ([.int, .int, .array (.int), .array (.int), .array (.int), .array (.long), .array (.int)] : List FieldType).getD k .int
theorem nmCv : ∀ a, a < 7 → ∀ b, b < 7 → a ≠ b → (TCv a).2.1 ≠ (TCv b).2.1 := by decide +kernel
theorem tyokCv : ∀ k, k < 7 → parseFieldDescriptor (TCv k).2.2.1 = some (tyCv k) := by decide +kernel
set_option maxRecDepth 100000 in
theorem inCv : ∀ w ∈ u_ws RCv TCv 7, w ∈ cfB := cf_ins [381, 383, 385, 387, 389, 391, 393] (by decide +kernel) (by decide +kernel)
def RMp : String := "CellForge$Mapping"
def FMp : List (String × String × String × Bool) := [("CellForge$Mapping", "size", "I", false), ("CellForge$Mapping", "area", "I", false), ("CellForge$Mapping", "time", "I", false), ("CellForge$Mapping", "literals", "[I", true), ("CellForge$Mapping", "made", "[J", true), ("CellForge$Mapping", "plain", "[J", true), ("CellForge$Mapping", "wanted", "[Z", true)]
def TMp : u_T := fun k => FMp.getD k ("", "", "", false)
def tyMp : Nat → FieldType := fun k => ([.int, .int, .int, .array (.int), .array (.long), .array (.long), .array (.boolean)] : List FieldType).getD k .int
theorem nmMp : ∀ a, a < 7 → ∀ b, b < 7 → a ≠ b → (TMp a).2.1 ≠ (TMp b).2.1 := by decide +kernel
theorem tyokMp : ∀ k, k < 7 → parseFieldDescriptor (TMp k).2.2.1 = some (tyMp k) := by decide +kernel
set_option maxRecDepth 100000 in
theorem inMp : ∀ w ∈ u_ws RMp TMp 7, w ∈ cfB := cf_ins [414, 416, 418, 420, 422, 424, 426] (by decide +kernel) (by decide +kernel)
def RSc : String := "CellForge$Script"
def FSc : List (String × String × String × Bool) := [("CellForge$Script", "ready", "Z", false), ("CellForge$Script", "signs", "Ljava/lang/StringBuilder;", true)]
def TSc : u_T := fun k => FSc.getD k ("", "", "", false)
def tySc : Nat → FieldType := fun k => ([.boolean, .object "java/lang/StringBuilder"] : List FieldType).getD k .int
theorem nmSc : ∀ a, a < 2 → ∀ b, b < 2 → a ≠ b → (TSc a).2.1 ≠ (TSc b).2.1 := by decide +kernel
theorem tyokSc : ∀ k, k < 2 → parseFieldDescriptor (TSc k).2.2.1 = some (tySc k) := by decide +kernel
set_option maxRecDepth 100000 in
theorem inSc : ∀ w ∈ u_ws RSc TSc 2, w ∈ cfB := cf_ins [472, 474] (by decide +kernel) (by decide +kernel)
def RLi : String := "CellForge$Library"
def FLi : List (String × String × String × Bool) := [("CellForge$Library", "cells", "I", false), ("CellForge$Library", "inverter", "I", false), ("CellForge$Library", "names", "[J", true), ("CellForge$Library", "areas", "[I", true), ("CellForge$Library", "delays", "[I", true), ("CellForge$Library", "pins", "[I", true), ("CellForge$Library", "tables", "[I", true), ("CellForge$Library", "ways", "I", false), ("CellForge$Library", "wayCells", "[I", true), ("CellForge$Library", "wayPlaces", "[I", true), ("CellForge$Library", "chain", "[I", true), ("CellForge$Library", "first", "[I", true)]
def TLi : u_T := fun k => FLi.getD k ("", "", "", false)
def tyLi : Nat → FieldType := fun k => ([.int, .int, .array (.long), .array (.int), .array (.int), .array (.int), .array (.int), .int, .array (.int), .array (.int), .array (.int), .array (.int)] : List FieldType).getD k .int
theorem nmLi : ∀ a, a < 12 → ∀ b, b < 12 → a ≠ b → (TLi a).2.1 ≠ (TLi b).2.1 := by decide +kernel
theorem tyokLi : ∀ k, k < 12 → parseFieldDescriptor (TLi k).2.2.1 = some (tyLi k) := by decide +kernel
set_option maxRecDepth 100000 in
theorem inLi : ∀ w ∈ u_ws RLi TLi 12, w ∈ cfB := cf_ins [636, 638, 640, 642, 644, 646, 648, 650, 652, 654, 656, 658] (by decide +kernel) (by decide +kernel)
def RM : String := "CellForgeModel"
def FM : List (String × String × String × Bool) := [("CellForgeModel", "thrown", "I", false), ("CellForgeModel", "signs", "[I", true), ("CellForgeModel", "size", "I", false), ("CellForgeModel", "faultLine", "I", false), ("CellForgeModel", "words", "[J", true), ("CellForgeModel", "fault", "I", false), ("CellForgeModel", "line", "I", false), ("CellForgeModel", "wordCount", "I", false), ("CellForgeModel", "wordFrom", "[I", true), ("CellForgeModel", "wordTo", "[I", true), ("CellForgeModel", "newInputs", "I", false), ("CellForgeModel", "inputFrom", "[I", true), ("CellForgeModel", "inputTo", "[I", true), ("CellForgeModel", "newOutputs", "I", false), ("CellForgeModel", "outputFrom", "[I", true), ("CellForgeModel", "outputTo", "[I", true), ("CellForgeModel", "outputLine", "I", false), ("CellForgeModel", "tables", "I", false), ("CellForgeModel", "tableLines", "[I", true), ("CellForgeModel", "tableNames", "[I", true), ("CellForgeModel", "nameFrom", "[I", true), ("CellForgeModel", "nameTo", "[I", true), ("CellForgeModel", "rowCounts", "[I", true), ("CellForgeModel", "rowFrom", "[I", true), ("CellForgeModel", "ends", "[Z", true), ("CellForgeModel", "gives", "[I", true), ("CellForgeModel", "literalOf", "[I", true), ("CellForgeModel", "found", "[Z", true), ("CellForgeModel", "reached", "[Z", true), ("CellForgeModel", "open", "I", false), ("CellForgeModel", "openTables", "[I", true), ("CellForgeModel", "making", "I", false), ("CellForgeModel", "newOnes", "[I", true), ("CellForgeModel", "newTwos", "[I", true), ("CellForgeModel", "newLevels", "[I", true), ("CellForgeModel", "newOutput", "[I", true), ("CellForgeModel", "tooGreat", "Z", false), ("CellForgeModel", "newBase", "I", false), ("CellForgeModel", "hasNetlist", "Z", false), ("CellForgeModel", "inputs", "I", false), ("CellForgeModel", "outputs", "I", false), ("CellForgeModel", "inputNames", "[I", true), ("CellForgeModel", "outputNames", "[I", true), ("CellForgeModel", "gates", "I", false), ("CellForgeModel", "ones", "[I", true), ("CellForgeModel", "twos", "[I", true), ("CellForgeModel", "levels", "[I", true), ("CellForgeModel", "output", "[I", true), ("CellForgeModel", "uses", "[I", true), ("CellForgeModel", "needed", "[Z", true), ("CellForgeModel", "apart", "[Z", true), ("CellForgeModel", "renewed", "[I", true), ("CellForgeModel", "rowSize", "I", false), ("CellForgeModel", "row", "[I", true), ("CellForgeModel", "heap", "I", false), ("CellForgeModel", "pile", "[I", true), ("CellForgeModel", "functions", "[J", true), ("CellForgeModel", "cutCounts", "[I", true), ("CellForgeModel", "cutNodes", "[I", true), ("CellForgeModel", "cutSizes", "[I", true), ("CellForgeModel", "cutMarks", "[I", true), ("CellForgeModel", "joined", "[I", true), ("CellForgeModel", "depths", "[I", true), ("CellForgeModel", "best", "[I", true), ("CellForgeModel", "hasCover", "Z", false), ("CellForgeModel", "lastMost", "I", false), ("CellForgeModel", "lastFew", "Z", false), ("CellForgeModel", "times", "[I", true), ("CellForgeModel", "between", "[Z", true), ("CellForgeModel", "products", "[I", true), ("CellForgeModel", "taken", "I", false), ("CellForgeModel", "ones0", "[Z", true), ("CellForgeModel", "isCell", "[Z", true), ("CellForgeModel", "cells", "I", false), ("CellForgeModel", "cellGates", "[I", true), ("CellForgeModel", "values", "[Z", true), ("CellForgeModel", "written", "I", false), ("CellForgeModel", "text", "[I", true), ("CellForgeModel", "hasLibrary", "Z", false), ("CellForgeModel", "newCells", "I", false), ("CellForgeModel", "newNames", "[I", true), ("CellForgeModel", "newFacts", "[I", true), ("CellForgeModel", "cellCount", "I", false), ("CellForgeModel", "cellNames", "[I", true), ("CellForgeModel", "facts", "[I", true), ("CellForgeModel", "isMapped", "Z", false), ("CellForgeModel", "made", "[Z", true), ("CellForgeModel", "madeBy", "[I", true), ("CellForgeModel", "hasPlain", "[Z", true), ("CellForgeModel", "plainBy", "[I", true), ("CellForgeModel", "match", "[I", true), ("CellForgeModel", "masks", "[I", true), ("CellForgeModel", "isInstance", "[Z", true), ("CellForgeModel", "instances", "I", false), ("CellForgeModel", "instanceOf", "[I", true), ("CellForgeModel", "toMap", "Z", false), ("CellForgeModel", "mapSigns", "I", false), ("CellForgeModel", "mapText", "[I", true), ("CellForgeModel", "placesAt", "[I", true)]
def TM : u_T := fun k => FM.getD k ("", "", "", false)
def tyM : Nat → FieldType := fun k => ([.int, .array (.int), .int, .int, .array (.long), .int, .int, .int, .array (.int), .array (.int), .int, .array (.int), .array (.int), .int, .array (.int), .array (.int), .int, .int, .array (.int), .array (.int), .array (.int), .array (.int), .array (.int), .array (.int), .array (.boolean), .array (.int), .array (.int), .array (.boolean), .array (.boolean), .int, .array (.int), .int, .array (.int), .array (.int), .array (.int), .array (.int), .boolean, .int, .boolean, .int, .int, .array (.int), .array (.int), .int, .array (.int), .array (.int), .array (.int), .array (.int), .array (.int), .array (.boolean), .array (.boolean), .array (.int), .int, .array (.int), .int, .array (.int), .array (.long), .array (.int), .array (.int), .array (.int), .array (.int), .array (.int), .array (.int), .array (.int), .boolean, .int, .boolean, .array (.int), .array (.boolean), .array (.int), .int, .array (.boolean), .array (.boolean), .int, .array (.int), .array (.boolean), .int, .array (.int), .boolean, .int, .array (.int), .array (.int), .int, .array (.int), .array (.int), .boolean, .array (.boolean), .array (.int), .array (.boolean), .array (.int), .array (.int), .array (.int), .array (.boolean), .int, .array (.int), .boolean, .int, .array (.int), .array (.int)] : List FieldType).getD k .int
theorem nmM : ∀ a, a < 99 → ∀ b, b < 99 → a ≠ b → (TM a).2.1 ≠ (TM b).2.1 := by decide +kernel
theorem tyokM : ∀ k, k < 99 → parseFieldDescriptor (TM k).2.2.1 = some (tyM k) := by decide +kernel
set_option maxRecDepth 100000 in
theorem inM : ∀ w ∈ u_ws RM TM 99, w ∈ cfB := cf_ins [2081, 2083, 2085, 2087, 2089, 2091, 2093, 2095, 2097, 2099, 2101, 2103, 2105, 2107, 2109, 2111, 2113, 2115, 2117, 2119, 2121, 2123, 2125, 2127, 2129, 2131, 2133, 2135, 2137, 2139, 2141, 2143, 2145, 2147, 2149, 2151, 2153, 2155, 2157, 2159, 2161, 2163, 2165, 2167, 2169, 2171, 2173, 2175, 2177, 2179, 2181, 2183, 2185, 2187, 2189, 2191, 2193, 2195, 2197, 2199, 2201, 2203, 2205, 2207, 2209, 2211, 2213, 2215, 2217, 2219, 2221, 2223, 2225, 2227, 2229, 2231, 2233, 2235, 2237, 2239, 2241, 2243, 2245, 2247, 2249, 2251, 2253, 2255, 2257, 2259, 2261, 2263, 2265, 2267, 2269, 2271, 2273, 2275, 2277] (by decide +kernel) (by decide +kernel)
def RSB : String := "java/lang/StringBuilder"
def FSB : List (String × String × String × Bool) := [("java/lang/AbstractStringBuilder", "value", "[B", false), ("java/lang/AbstractStringBuilder", "coder", "B", false), ("java/lang/AbstractStringBuilder", "maybeLatin1", "Z", false), ("java/lang/AbstractStringBuilder", "count", "I", false)]
def TSB : u_T := fun k => FSB.getD k ("", "", "", false)
def tySB : Nat → FieldType := fun k => ([.array (.byte), .byte, .boolean, .int] : List FieldType).getD k .int
theorem nmSB : ∀ a, a < 4 → ∀ b, b < 4 → a ≠ b → (TSB a).2.1 ≠ (TSB b).2.1 := by decide +kernel
theorem tyokSB : ∀ k, k < 4 → parseFieldDescriptor (TSB k).2.2.1 = some (tySB k) := by decide +kernel
set_option maxRecDepth 100000 in
theorem inSB : ∀ w ∈ u_ws RSB TSB 4, w ∈ cfB := cf_ins [458, 460, 462, 464] (by decide +kernel) (by decide +kernel)
abbrev vwCl : List vw_C := [(RF, TF, 19), (RTx, TTx, 7), (RNl, TNl, 17), (RGr, TGr, 10), (RFu, TFu, 5), (RCu, TCu, 6), (RCo, TCo, 5), (RRe, TRe, 12), (RCv, TCv, 7), (RMp, TMp, 7), (RSc, TSc, 2), (RLi, TLi, 12), (RM, TM, 99), (RSB, TSB, 4)]
abbrev cfT (K : Nat → ClassId) : List (ClassId × FieldType) := [(K 0, .int), (K 1, .long), (K 2, .byte), (K 3, .boolean)]
