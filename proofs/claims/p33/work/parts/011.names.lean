/-! The tables of this claim, written by a program out of its Statement. -/
def rT0 : u_T := fun k => match k with
  | 0 => ("Cellbrook", "pile", "[LCellbrook$Expr;", true)
  | 1 => ("Cellbrook", "height", "I", false)
  | 2 => ("Cellbrook", "current", "LCellbrook$Version;", true)
  | 3 => ("Cellbrook", "made", "I", false)
  | 4 => ("Cellbrook", "links", "LCellbrook$Links;", true)
  | 5 => ("Cellbrook", "resources", "LCellbrook$Resources;", true)
  | 6 => ("Cellbrook", "sheet", "LCellbrook$Sheet;", true)
  | 7 => ("Cellbrook", "anew", "LCellbrook$Sheet;", true)
  | 8 => ("Cellbrook", "runningMode", "I", false)
  | 9 => ("Cellbrook", "branches", "[LCellbrook$Version;", true)
  | _ => ("Cellbrook", "branchCount", "I", false)
def rU0 : Nat → FieldType := fun k => match k with
  | 0 => .array (.object "Cellbrook$Expr")
  | 1 => .int
  | 2 => .object "Cellbrook$Version"
  | 3 => .int
  | 4 => .object "Cellbrook$Links"
  | 5 => .object "Cellbrook$Resources"
  | 6 => .object "Cellbrook$Sheet"
  | 7 => .object "Cellbrook$Sheet"
  | 8 => .int
  | 9 => .array (.object "Cellbrook$Version")
  | _ => .int
def rT1 : u_T := fun k => match k with
  | 0 => ("Cellbrook$Version", "there", "[Z", true)
  | _ => ("Cellbrook$Version", "codes", "[LCellbrook$Code;", true)
def rU1 : Nat → FieldType := fun k => match k with
  | 0 => .array .boolean
  | _ => .array (.object "Cellbrook$Code")
def rT2 : u_T := fun k => match k with
  | 0 => ("Cellbrook$Code", "count", "I", false)
  | 1 => ("Cellbrook$Code", "names", "[I", true)
  | _ => ("Cellbrook$Code", "exprs", "[LCellbrook$Expr;", true)
def rU2 : Nat → FieldType := fun k => match k with
  | 0 => .int
  | 1 => .array .int
  | _ => .array (.object "Cellbrook$Expr")
def rT3 : u_T := fun k => match k with
  | 0 => ("Cellbrook$Links", "version", "LCellbrook$Version;", true)
  | 1 => ("Cellbrook$Links", "definers", "[I", true)
  | 2 => ("Cellbrook$Links", "owner", "[I", true)
  | 3 => ("Cellbrook$Links", "read", "[I", true)
  | 4 => ("Cellbrook$Links", "direct", "[I", true)
  | 5 => ("Cellbrook$Links", "needs", "[I", true)
  | _ => ("Cellbrook$Links", "wrong", "[I", true)
def rU3 : Nat → FieldType := fun k => match k with
  | 0 => .object "Cellbrook$Version"
  | 1 => .array .int
  | 2 => .array .int
  | 3 => .array .int
  | 4 => .array .int
  | 5 => .array .int
  | _ => .array .int
def rT4 : u_T := fun k => match k with
  | 0 => ("Cellbrook$Resources", "inputs", "[J", true)
  | _ => ("Cellbrook$Resources", "seed", "I", false)
def rU4 : Nat → FieldType := fun k => match k with
  | 0 => .array .long
  | _ => .int
def rT5 : u_T := fun k => match k with
  | 0 => ("Cellbrook$Result", "error", "I", false)
  | 1 => ("Cellbrook$Result", "runs", "I", false)
  | 2 => ("Cellbrook$Result", "count", "I", false)
  | 3 => ("Cellbrook$Result", "names", "[I", true)
  | 4 => ("Cellbrook$Result", "numbers", "[J", true)
  | 5 => ("Cellbrook$Result", "functions", "[LCellbrook$Node;", true)
  | 6 => ("Cellbrook$Result", "code", "LCellbrook$Code;", true)
  | 7 => ("Cellbrook$Result", "inputs", "[J", true)
  | 8 => ("Cellbrook$Result", "seed", "I", false)
  | 9 => ("Cellbrook$Result", "seenKinds", "[I", true)
  | _ => ("Cellbrook$Result", "seenMarks", "[J", true)
def rU5 : Nat → FieldType := fun k => match k with
  | 0 => .int
  | 1 => .int
  | 2 => .int
  | 3 => .array .int
  | 4 => .array .long
  | 5 => .array (.object "Cellbrook$Node")
  | 6 => .object "Cellbrook$Code"
  | 7 => .array .long
  | 8 => .int
  | 9 => .array .int
  | _ => .array .long
def rT6 : u_T := fun k => match k with
  | 0 => ("Cellbrook$Store", "results", "[LCellbrook$Result;", true)
  | 1 => ("Cellbrook$Store", "lastMade", "LCellbrook$Node;", false)
  | 2 => ("Cellbrook$Store", "free", "LCellbrook$Node;", false)
  | 3 => ("Cellbrook$Store", "pending", "LCellbrook$Node;", false)
  | 4 => ("Cellbrook$Store", "handedOut", "I", false)
  | _ => ("Cellbrook$Store", "lasting", "I", false)
def rU6 : Nat → FieldType := fun k => match k with
  | 0 => .array (.object "Cellbrook$Result")
  | 1 => .object "Cellbrook$Node"
  | 2 => .object "Cellbrook$Node"
  | 3 => .object "Cellbrook$Node"
  | 4 => .int
  | _ => .int
def rT7 : u_T := fun k => match k with
  | 0 => ("Cellbrook$Machine", "store", "LCellbrook$Store;", true)
  | 1 => ("Cellbrook$Machine", "resources", "LCellbrook$Resources;", true)
  | 2 => ("Cellbrook$Machine", "parts", "[LCellbrook$Expr;", true)
  | 3 => ("Cellbrook$Machine", "scopes", "[LCellbrook$Node;", true)
  | 4 => ("Cellbrook$Machine", "ending", "[Z", true)
  | 5 => ("Cellbrook$Machine", "open", "I", false)
  | 6 => ("Cellbrook$Machine", "numbers", "[J", true)
  | 7 => ("Cellbrook$Machine", "functions", "[LCellbrook$Node;", true)
  | 8 => ("Cellbrook$Machine", "height", "I", false)
  | 9 => ("Cellbrook$Machine", "running", "I", false)
  | 10 => ("Cellbrook$Machine", "steps", "I", false)
  | 11 => ("Cellbrook$Machine", "draws", "I", false)
  | 12 => ("Cellbrook$Machine", "known", "LCellbrook$Node;", false)
  | _ => ("Cellbrook$Machine", "functionsFound", "J", false)
def rU7 : Nat → FieldType := fun k => match k with
  | 0 => .object "Cellbrook$Store"
  | 1 => .object "Cellbrook$Resources"
  | 2 => .array (.object "Cellbrook$Expr")
  | 3 => .array (.object "Cellbrook$Node")
  | 4 => .array .boolean
  | 5 => .int
  | 6 => .array .long
  | 7 => .array (.object "Cellbrook$Node")
  | 8 => .int
  | 9 => .int
  | 10 => .int
  | 11 => .int
  | 12 => .object "Cellbrook$Node"
  | _ => .long
def rT8 : u_T := fun k => match k with
  | 0 => ("Cellbrook$Sheet", "version", "LCellbrook$Version;", true)
  | 1 => ("Cellbrook$Sheet", "links", "LCellbrook$Links;", true)
  | 2 => ("Cellbrook$Sheet", "machine", "LCellbrook$Machine;", true)
  | 3 => ("Cellbrook$Sheet", "results", "[LCellbrook$Result;", true)
  | _ => ("Cellbrook$Sheet", "start", "I", true)
def rU8 : Nat → FieldType := fun k => match k with
  | 0 => .object "Cellbrook$Version"
  | 1 => .object "Cellbrook$Links"
  | 2 => .object "Cellbrook$Machine"
  | 3 => .array (.object "Cellbrook$Result")
  | _ => .int
def rT9 : u_T := fun k => match k with
  | 0 => ("Cellbrook$Expr", "sort", "I", true)
  | 1 => ("Cellbrook$Expr", "which", "I", true)
  | 2 => ("Cellbrook$Expr", "number", "J", true)
  | 3 => ("Cellbrook$Expr", "first", "LCellbrook$Expr;", true)
  | 4 => ("Cellbrook$Expr", "second", "LCellbrook$Expr;", true)
  | 5 => ("Cellbrook$Expr", "third", "LCellbrook$Expr;", true)
  | 6 => ("Cellbrook$Expr", "parts", "I", true)
  | 7 => ("Cellbrook$Expr", "free", "I", true)
  | 8 => ("Cellbrook$Expr", "mentioned", "I", true)
  | 9 => ("Cellbrook$Expr", "inputs", "I", true)
  | _ => ("Cellbrook$Expr", "draws", "Z", true)
def rU9 : Nat → FieldType := fun k => match k with
  | 0 => .int
  | 1 => .int
  | 2 => .long
  | 3 => .object "Cellbrook$Expr"
  | 4 => .object "Cellbrook$Expr"
  | 5 => .object "Cellbrook$Expr"
  | 6 => .int
  | 7 => .int
  | 8 => .int
  | 9 => .int
  | _ => .boolean
def rT10 : u_T := fun k => match k with
  | 0 => ("Cellbrook$Node", "code", "LCellbrook$Expr;", false)
  | 1 => ("Cellbrook$Node", "name", "I", false)
  | 2 => ("Cellbrook$Node", "number", "J", false)
  | 3 => ("Cellbrook$Node", "function", "LCellbrook$Node;", false)
  | 4 => ("Cellbrook$Node", "outer", "LCellbrook$Node;", false)
  | 5 => ("Cellbrook$Node", "inUse", "Z", false)
  | 6 => ("Cellbrook$Node", "madeBefore", "LCellbrook$Node;", false)
  | _ => ("Cellbrook$Node", "next", "LCellbrook$Node;", false)
def rU10 : Nat → FieldType := fun k => match k with
  | 0 => .object "Cellbrook$Expr"
  | 1 => .int
  | 2 => .long
  | 3 => .object "Cellbrook$Node"
  | 4 => .object "Cellbrook$Node"
  | 5 => .boolean
  | 6 => .object "Cellbrook$Node"
  | _ => .object "Cellbrook$Node"
def rCl : List vw_C := [("Cellbrook", rT0, 11), ("Cellbrook$Version", rT1, 2), ("Cellbrook$Code", rT2, 3), ("Cellbrook$Links", rT3, 7), ("Cellbrook$Resources", rT4, 2), ("Cellbrook$Result", rT5, 11), ("Cellbrook$Store", rT6, 6), ("Cellbrook$Machine", rT7, 14), ("Cellbrook$Sheet", rT8, 5), ("Cellbrook$Expr", rT9, 11), ("Cellbrook$Node", rT10, 8)]
def rEl : List FieldType := [.int, .long, .boolean, .object "Cellbrook$Expr", .object "Cellbrook$Code", .object "Cellbrook$Result", .object "Cellbrook$Node", .object "Cellbrook$Version"]
def rE (j : Nat) : FieldType := rEl.getD j .int
def rXn (x : Nat) : String := (["java/lang/IllegalStateException", "java/lang/IllegalArgumentException", "java/lang/IndexOutOfBoundsException"] : List String).getD x ""
def rSL : List (String × Nat × String) := [("Cellbrook", 262, "the pile has 20 exprs"), ("Cellbrook", 256, "no such name"), ("Cellbrook", 258, "no such input"), ("Cellbrook", 264, "too few exprs on the pile"), ("Cellbrook", 269, "more than 30 parts"), ("Cellbrook", 97, "no such sign"), ("Cellbrook", 107, "there were 12 cells"), ("Cellbrook", 254, "no such cell"), ("Cellbrook", 135, "the pile is empty"), ("Cellbrook", 145, "the cell has 4 definitions"), ("Cellbrook", 151, "the cell does not define the name"), ("Cellbrook", 174, "the other name is in use"), ("Cellbrook", 191, "no such mode"), ("Cellbrook", 202, "there are 4 branches"), ("Cellbrook", 260, "no such branch"), ("Cellbrook", 213, "there never was such a cell"), ("Cellbrook", 237, "no number is kept of the name")]
def rTW : List Cond := [.castable "java/lang/IllegalStateException" "java/lang/IllegalStateException", .castable "java/lang/IndexOutOfBoundsException" "java/lang/IndexOutOfBoundsException", .castable "java/lang/IllegalArgumentException" "java/lang/IllegalArgumentException", .methodLinkNest "Cellbrook$Version" 21 ⟨"Cellbrook$Code", "<init>", "()V"⟩ "Cellbrook", .methodLinkNest "Cellbrook" 33 ⟨"Cellbrook$Resources", "<init>", "()V"⟩ "Cellbrook", .methodLinkNest "Cellbrook" 40 ⟨"Cellbrook$Result", "<init>", "()V"⟩ "Cellbrook", .methodLinkNest "Cellbrook$Result" 31 ⟨"Cellbrook$Code", "<init>", "()V"⟩ "Cellbrook", .methodLinkNest "Cellbrook$Code" 29 ⟨"Cellbrook$Expr", "same", "(LCellbrook$Expr;LCellbrook$Expr;)Z"⟩ "Cellbrook", .methodLinkNest "Cellbrook$Store" 21 ⟨"Cellbrook$Node", "<init>", "()V"⟩ "Cellbrook", .methodLinkNest "Cellbrook$Code" 50 ⟨"Cellbrook$Expr", "countFree", "(LCellbrook$Expr;I)I"⟩ "Cellbrook", .methodLinkNest "Cellbrook$Code" 54 ⟨"Cellbrook$Expr", "exchanged", "(LCellbrook$Expr;II)LCellbrook$Expr;"⟩ "Cellbrook"]
def rTWat : List Nat := [375, 505, 548, 73, 144, 164, 171, 639, 738, 919, 927]
def rCn (c : Nat) : String := (["Cellbrook", "Cellbrook$Version", "Cellbrook$Code", "Cellbrook$Links", "Cellbrook$Resources", "Cellbrook$Result", "Cellbrook$Store", "Cellbrook$Machine", "Cellbrook$Sheet", "CellbrookLaw", "Cellbrook$Expr", "Cellbrook$Node", "java/lang/Integer"] : List String).getD c ""
