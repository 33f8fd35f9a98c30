/-! The tables of this claim, written by a program out of its Statement. -/
def rT0 : u_T := fun k => match k with
  | 0 => ("Cellbrook", "pile", "[LCellbrook$Expr;", true)
  | 1 => ("Cellbrook", "height", "I", false)
  | 2 => ("Cellbrook", "current", "LCellbrook$Version;", true)
  | 3 => ("Cellbrook", "made", "I", false)
  | 4 => ("Cellbrook", "links", "LCellbrook$Links;", true)
  | 5 => ("Cellbrook", "resources", "LCellbrook$Resources;", true)
  | 6 => ("Cellbrook", "sheet", "LCellbrook$Sheet;", true)
  | 7 => ("Cellbrook", "anew", "LCellbrook$Sheet;", true)
  | 8 => ("Cellbrook", "runningMode", "I", false)
  | 9 => ("Cellbrook", "branches", "[LCellbrook$Version;", true)
  | _ => ("Cellbrook", "branchCount", "I", false)
def rU0 : Nat → FieldType := fun k => match k with
  | 0 => .array (.object "Cellbrook$Expr")
  | 1 => .int
  | 2 => .object "Cellbrook$Version"
  | 3 => .int
  | 4 => .object "Cellbrook$Links"
  | 5 => .object "Cellbrook$Resources"
  | 6 => .object "Cellbrook$Sheet"
  | 7 => .object "Cellbrook$Sheet"
  | 8 => .int
  | 9 => .array (.object "Cellbrook$Version")
  | _ => .int
def rT1 : u_T := fun k => match k with
  | 0 => ("Cellbrook$Version", "there", "[Z", true)
  | _ => ("Cellbrook$Version", "codes", "[LCellbrook$Code;", true)
def rU1 : Nat → FieldType := fun k => match k with
  | 0 => .array .boolean
  | _ => .array (.object "Cellbrook$Code")
def rT2 : u_T := fun k => match k with
  | 0 => ("Cellbrook$Code", "count", "I", false)
  | 1 => ("Cellbrook$Code", "names", "[I", true)
  | _ => ("Cellbrook$Code", "exprs", "[LCellbrook$Expr;", true)
def rU2 : Nat → FieldType := fun k => match k with
  | 0 => .int
  | 1 => .array .int
  | _ => .array (.object "Cellbrook$Expr")
def rT3 : u_T := fun k => match k with
  | 0 => ("Cellbrook$Links", "version", "LCellbrook$Version;", true)
  | 1 => ("Cellbrook$Links", "definers", "[I", true)
  | 2 => ("Cellbrook$Links", "owner", "[I", true)
  | 3 => ("Cellbrook$Links", "read", "[I", true)
  | 4 => ("Cellbrook$Links", "direct", "[I", true)
  | 5 => ("Cellbrook$Links", "needs", "[I", true)
  | _ => ("Cellbrook$Links", "wrong", "[I", true)
def rU3 : Nat → FieldType := fun k => match k with
  | 0 => .object "Cellbrook$Version"
  | 1 => .array .int
  | 2 => .array .int
  | 3 => .array .int
  | 4 => .array .int
  | 5 => .array .int
  | _ => .array .int
def rT4 : u_T := fun k => match k with
  | 0 => ("Cellbrook$Resources", "inputs", "[J", true)
  | _ => ("Cellbrook$Resources", "seed", "I", false)
def rU4 : Nat → FieldType := fun k => match k with
  | 0 => .array .long
  | _ => .int
def rT5 : u_T := fun k => match k with
  | 0 => ("Cellbrook$Result", "error", "I", false)
  | 1 => ("Cellbrook$Result", "runs", "I", false)
  | 2 => ("Cellbrook$Result", "count", "I", false)
  | 3 => ("Cellbrook$Result", "names", "[I", true)
  | 4 => ("Cellbrook$Result", "numbers", "[J", true)
  | 5 => ("Cellbrook$Result", "functions", "[LCellbrook$Node;", true)
  | 6 => ("Cellbrook$Result", "code", "LCellbrook$Code;", true)
  | 7 => ("Cellbrook$Result", "inputs", "[J", true)
  | 8 => ("Cellbrook$Result", "seed", "I", false)
  | 9 => ("Cellbrook$Result", "seenKinds", "[I", true)
  | _ => ("Cellbrook$Result", "seenMarks", "[J", true)
def rU5 : Nat → FieldType := fun k => match k with
  | 0 => .int
  | 1 => .int
  | 2 => .int
  | 3 => .array .int
  | 4 => .array .long
  | 5 => .array (.object "Cellbrook$Node")
  | 6 => .object "Cellbrook$Code"
  | 7 => .array .long
  | 8 => .int
  | 9 => .array .int
  | _ => .array .long
def rT6 : u_T := fun k => match k with
  | 0 => ("Cellbrook$Store", "results", "[LCellbrook$Result;", true)
  | 1 => ("Cellbrook$Store", "lastMade", "LCellbrook$Node;", false)
  | 2 => ("Cellbrook$Store", "free", "LCellbrook$Node;", false)
  | 3 => ("Cellbrook$Store", "pending", "LCellbrook$Node;", false)
  | 4 => ("Cellbrook$Store", "handedOut", "I", false)
  | _ => ("Cellbrook$Store", "lasting", "I", false)
def rU6 : Nat → FieldType := fun k => match k with
  | 0 => .array (.object "Cellbrook$Result")
  | 1 => .object "Cellbrook$Node"
  | 2 => .object "Cellbrook$Node"
  | 3 => .object "Cellbrook$Node"
  | 4 => .int
  | _ => .int
def rT7 : u_T := fun k => match k with
  | 0 => ("Cellbrook$Machine", "store", "LCellbrook$Store;", true)
  | 1 => ("Cellbrook$Machine", "resources", "LCellbrook$Resources;", true)
  | 2 => ("Cellbrook$Machine", "parts", "[LCellbrook$Expr;", true)
  | 3 => ("Cellbrook$Machine", "scopes", "[LCellbrook$Node;", true)
  | 4 => ("Cellbrook$Machine", "ending", "[Z", true)
  | 5 => ("Cellbrook$Machine", "open", "I", false)
  | 6 => ("Cellbrook$Machine", "numbers", "[J", true)
  | 7 => ("Cellbrook$Machine", "functions", "[LCellbrook$Node;", true)
  | 8 => ("Cellbrook$Machine", "height", "I", false)
  | 9 => ("Cellbrook$Machine", "running", "I", false)
  | 10 => ("Cellbrook$Machine", "steps", "I", false)
  | 11 => ("Cellbrook$Machine", "draws", "I", false)
  | 12 => ("Cellbrook$Machine", "known", "LCellbrook$Node;", false)
  | _ => ("Cellbrook$Machine", "functionsFound", "J", false)
def rU7 : Nat → FieldType := fun k => match k with
  | 0 => .object "Cellbrook$Store"
  | 1 => .object "Cellbrook$Resources"
  | 2 => .array (.object "Cellbrook$Expr")
  | 3 => .array (.object "Cellbrook$Node")
  | 4 => .array .boolean
  | 5 => .int
  | 6 => .array .long
  | 7 => .array (.object "Cellbrook$Node")
  | 8 => .int
  | 9 => .int
  | 10 => .int
  | 11 => .int
  | 12 => .object "Cellbrook$Node"
  | _ => .long
def rT8 : u_T := fun k => match k with
  | 0 => ("Cellbrook$Sheet", "version", "LCellbrook$Version;", true)
  | 1 => ("Cellbrook$Sheet", "links", "LCellbrook$Links;", true)
  | 2 => ("Cellbrook$Sheet", "machine", "LCellbrook$Machine;", true)
  | 3 => ("Cellbrook$Sheet", "results", "[LCellbrook$Result;", true)
  | _ => ("Cellbrook$Sheet", "start", "I", true)
def rU8 : Nat → FieldType := fun k => match k with
  | 0 => .object "Cellbrook$Version"
  | 1 => .object "Cellbrook$Links"
  | 2 => .object "Cellbrook$Machine"
  | 3 => .array (.object "Cellbrook$Result")
  | _ => .int
def rT9 : u_T := fun k => match k with
  | 0 => ("Cellbrook$Expr", "sort", "I", true)
  | 1 => ("Cellbrook$Expr", "which", "I", true)
  | 2 => ("Cellbrook$Expr", "number", "J", true)
  | 3 => ("Cellbrook$Expr", "first", "LCellbrook$Expr;", true)
  | 4 => ("Cellbrook$Expr", "second", "LCellbrook$Expr;", true)
  | 5 => ("Cellbrook$Expr", "third", "LCellbrook$Expr;", true)
  | 6 => ("Cellbrook$Expr", "parts", "I", true)
  | 7 => ("Cellbrook$Expr", "free", "I", true)
  | 8 => ("Cellbrook$Expr", "mentioned", "I", true)
  | 9 => ("Cellbrook$Expr", "inputs", "I", true)
  | _ => ("Cellbrook$Expr", "draws", "Z", true)
def rU9 : Nat → FieldType := fun k => match k with
  | 0 => .int
  | 1 => .int
  | 2 => .long
  | 3 => .object "Cellbrook$Expr"
  | 4 => .object "Cellbrook$Expr"
  | 5 => .object "Cellbrook$Expr"
  | 6 => .int
  | 7 => .int
  | 8 => .int
  | 9 => .int
  | _ => .boolean
def rT10 : u_T := fun k => match k with
  | 0 => ("CellbrookModel", "pile", "Ljava/util/ArrayList;", true)
  | 1 => ("CellbrookModel", "book", "LCellbrookModel$Book;", true)
  | 2 => ("CellbrookModel", "given", "I", false)
  | 3 => ("CellbrookModel", "mode", "I", false)
  | 4 => ("CellbrookModel", "branches", "I", false)
  | 5 => ("CellbrookModel", "kept", "[LCellbrookModel$Code;", true)
  | _ => ("CellbrookModel", "thrown", "I", false)
def rU10 : Nat → FieldType := fun k => match k with
  | 0 => .object "java/util/ArrayList"
  | 1 => .object "CellbrookModel$Book"
  | 2 => .int
  | 3 => .int
  | 4 => .int
  | 5 => .array (.object "CellbrookModel$Code")
  | _ => .int
def rT11 : u_T := fun k => match k with
  | 0 => ("CellbrookModel$Book", "cells", "[LCellbrookModel$Cell;", true)
  | 1 => ("CellbrookModel$Book", "inputs", "[J", true)
  | 2 => ("CellbrookModel$Book", "seed", "I", false)
  | 3 => ("CellbrookModel$Book", "running", "I", false)
  | 4 => ("CellbrookModel$Book", "found", "[LCellbrookModel$Thing;", true)
  | 5 => ("CellbrookModel$Book", "given", "[LCellbrookModel$Thing;", true)
  | 6 => ("CellbrookModel$Book", "steps", "I", false)
  | 7 => ("CellbrookModel$Book", "draws", "I", false)
  | 8 => ("CellbrookModel$Book", "failed", "I", false)
  | _ => ("CellbrookModel$Book", "seen", "I", false)
def rU11 : Nat → FieldType := fun k => match k with
  | 0 => .array (.object "CellbrookModel$Cell")
  | 1 => .array .long
  | 2 => .int
  | 3 => .int
  | 4 => .array (.object "CellbrookModel$Thing")
  | 5 => .array (.object "CellbrookModel$Thing")
  | 6 => .int
  | 7 => .int
  | 8 => .int
  | _ => .int
def rT12 : u_T := fun k => match k with
  | 0 => ("CellbrookModel$Part", "kind", "I", true)
  | 1 => ("CellbrookModel$Part", "which", "I", true)
  | 2 => ("CellbrookModel$Part", "number", "J", true)
  | 3 => ("CellbrookModel$Part", "one", "LCellbrookModel$Part;", true)
  | 4 => ("CellbrookModel$Part", "two", "LCellbrookModel$Part;", true)
  | 5 => ("CellbrookModel$Part", "three", "LCellbrookModel$Part;", true)
  | _ => ("CellbrookModel$Part", "size", "I", true)
def rU12 : Nat → FieldType := fun k => match k with
  | 0 => .int
  | 1 => .int
  | 2 => .long
  | 3 => .object "CellbrookModel$Part"
  | 4 => .object "CellbrookModel$Part"
  | 5 => .object "CellbrookModel$Part"
  | _ => .int
def rT13 : u_T := fun k => match k with
  | 0 => ("CellbrookModel$Cell", "code", "LCellbrookModel$Code;", false)
  | 1 => ("CellbrookModel$Cell", "ran", "LCellbrookModel$Code;", false)
  | 2 => ("CellbrookModel$Cell", "error", "I", false)
  | 3 => ("CellbrookModel$Cell", "kept", "[LCellbrookModel$Thing;", true)
  | 4 => ("CellbrookModel$Cell", "inputs", "[J", true)
  | 5 => ("CellbrookModel$Cell", "seed", "I", false)
  | 6 => ("CellbrookModel$Cell", "readNames", "Ljava/util/ArrayList;", true)
  | 7 => ("CellbrookModel$Cell", "readThings", "Ljava/util/ArrayList;", true)
  | _ => ("CellbrookModel$Cell", "runs", "I", false)
def rU13 : Nat → FieldType := fun k => match k with
  | 0 => .object "CellbrookModel$Code"
  | 1 => .object "CellbrookModel$Code"
  | 2 => .int
  | 3 => .array (.object "CellbrookModel$Thing")
  | 4 => .array .long
  | 5 => .int
  | 6 => .object "java/util/ArrayList"
  | 7 => .object "java/util/ArrayList"
  | _ => .int
def rT14 : u_T := fun k => match k with
  | 0 => ("CellbrookModel$Code", "names", "Ljava/util/ArrayList;", true)
  | _ => ("CellbrookModel$Code", "parts", "Ljava/util/ArrayList;", true)
def rU14 : Nat → FieldType := fun k => match k with
  | 0 => .object "java/util/ArrayList"
  | _ => .object "java/util/ArrayList"
def rT15 : u_T := fun k => match k with
  | 0 => ("CellbrookModel$Thing", "number", "J", true)
  | 1 => ("CellbrookModel$Thing", "body", "LCellbrookModel$Part;", true)
  | _ => ("CellbrookModel$Thing", "around", "LCellbrookModel$Around;", true)
def rU15 : Nat → FieldType := fun k => match k with
  | 0 => .long
  | 1 => .object "CellbrookModel$Part"
  | _ => .object "CellbrookModel$Around"
def rT16 : u_T := fun k => match k with
  | 0 => ("CellbrookModel$Around", "name", "I", true)
  | 1 => ("CellbrookModel$Around", "is", "LCellbrookModel$Thing;", true)
  | _ => ("CellbrookModel$Around", "next", "LCellbrookModel$Around;", true)
def rU16 : Nat → FieldType := fun k => match k with
  | 0 => .int
  | 1 => .object "CellbrookModel$Thing"
  | _ => .object "CellbrookModel$Around"
def rT17 : u_T := fun k => match k with
  | 0 => ("java/util/ArrayList", "elementData", "[Ljava/lang/Object;", false)
  | 1 => ("java/util/ArrayList", "size", "I", false)
  | _ => ("java/util/AbstractList", "modCount", "I", false)
def rU17 : Nat → FieldType := fun k => match k with
  | 0 => .array (.object "java/lang/Object")
  | 1 => .int
  | _ => .int
def rCl : List vw_C := [("Cellbrook", rT0, 11), ("Cellbrook$Version", rT1, 2), ("Cellbrook$Code", rT2, 3), ("Cellbrook$Links", rT3, 7), ("Cellbrook$Resources", rT4, 2), ("Cellbrook$Result", rT5, 11), ("Cellbrook$Store", rT6, 6), ("Cellbrook$Machine", rT7, 14), ("Cellbrook$Sheet", rT8, 5), ("Cellbrook$Expr", rT9, 11), ("CellbrookModel", rT10, 7), ("CellbrookModel$Book", rT11, 10), ("CellbrookModel$Part", rT12, 7), ("CellbrookModel$Cell", rT13, 9), ("CellbrookModel$Code", rT14, 2), ("CellbrookModel$Thing", rT15, 3), ("CellbrookModel$Around", rT16, 3), ("java/util/ArrayList", rT17, 3)]
def rEl : List FieldType := [.int, .long, .boolean, .object "Cellbrook$Expr", .object "Cellbrook$Code", .object "Cellbrook$Result", .object "Cellbrook$Node", .object "Cellbrook$Version", .object "CellbrookModel$Cell", .object "CellbrookModel$Thing", .object "CellbrookModel$Code", .object "java/lang/Object"]
def rE (j : Nat) : FieldType := rEl.getD j .int
def rXn (x : Nat) : String := (["java/lang/IllegalStateException", "java/lang/IllegalArgumentException", "java/lang/IndexOutOfBoundsException"] : List String).getD x ""
def rSL : List (String × Nat × String) := [("Cellbrook", 262, "the pile has 20 exprs"), ("Cellbrook", 256, "no such name"), ("Cellbrook", 258, "no such input"), ("Cellbrook", 264, "too few exprs on the pile"), ("Cellbrook", 269, "more than 30 parts"), ("Cellbrook", 97, "no such sign"), ("Cellbrook", 107, "there were 12 cells"), ("Cellbrook", 254, "no such cell"), ("Cellbrook", 135, "the pile is empty"), ("Cellbrook", 145, "the cell has 4 definitions"), ("Cellbrook", 151, "the cell does not define the name"), ("Cellbrook", 174, "the other name is in use"), ("Cellbrook", 191, "no such mode"), ("Cellbrook", 202, "there are 4 branches"), ("Cellbrook", 260, "no such branch"), ("Cellbrook", 213, "there never was such a cell"), ("Cellbrook", 237, "no number is kept of the name")]
def rTW : List Cond := [.castable "java/lang/IllegalStateException" "java/lang/IllegalStateException", .castable "java/lang/IndexOutOfBoundsException" "java/lang/IndexOutOfBoundsException", .castable "java/lang/IllegalArgumentException" "java/lang/IllegalArgumentException", .castable "java/util/ArrayList" "java/util/Collection", .castable "Cellbrook$Expr" "java/lang/Object", .castable "Cellbrook$Code" "java/lang/Object", .castable "Cellbrook$Result" "java/lang/Object", .castable "Cellbrook$Node" "java/lang/Object", .castable "Cellbrook$Version" "java/lang/Object", .castable "CellbrookModel$Cell" "java/lang/Object", .castable "CellbrookModel$Thing" "java/lang/Object", .castable "CellbrookModel$Code" "java/lang/Object", .castable "java/lang/Integer" "java/lang/Object", .castable "Cellbrook" "java/lang/Object", .castable "Cellbrook$Links" "java/lang/Object", .castable "Cellbrook$Resources" "java/lang/Object", .castable "Cellbrook$Store" "java/lang/Object", .castable "Cellbrook$Machine" "java/lang/Object", .castable "Cellbrook$Sheet" "java/lang/Object", .castable "CellbrookModel" "java/lang/Object", .castable "java/util/ArrayList" "java/lang/Object", .castable "CellbrookModel$Book" "java/lang/Object", .castable "java/lang/IllegalStateException" "java/lang/Object", .castable "CellbrookModel$Part" "java/lang/Object", .castable "java/lang/IndexOutOfBoundsException" "java/lang/Object", .castable "java/lang/IllegalArgumentException" "java/lang/Object", .castable "CellbrookModel$Around" "java/lang/Object", .castable "java/lang/Throwable" "java/lang/Object", .castable "java/lang/String" "java/lang/Object", .castable "[LCellbrook$Expr;" "java/lang/Object", .castable "[LCellbrook$Code;" "java/lang/Object", .castable "[Z" "java/lang/Object", .castable "[I" "java/lang/Object", .castable "[J" "java/lang/Object", .castable "[LCellbrook$Result;" "java/lang/Object", .castable "[LCellbrook$Node;" "java/lang/Object", .castable "[LCellbrook$Version;" "java/lang/Object", .castable "[B" "java/lang/Object", .castable "[LCellbrookModel$Cell;" "java/lang/Object", .castable "[LCellbrookModel$Thing;" "java/lang/Object", .castable "[LCellbrookModel$Code;" "java/lang/Object", .castable "[Ljava/lang/Object;" "java/lang/Object", .methodLinkNest "Cellbrook$Version" 21 ⟨"Cellbrook$Code", "<init>", "()V"⟩ "Cellbrook", .methodLinkNest "Cellbrook" 33 ⟨"Cellbrook$Resources", "<init>", "()V"⟩ "Cellbrook", .methodLinkNest "Cellbrook" 40 ⟨"Cellbrook$Result", "<init>", "()V"⟩ "Cellbrook", .methodLinkNest "Cellbrook$Result" 31 ⟨"Cellbrook$Code", "<init>", "()V"⟩ "Cellbrook", .methodLinkNest "Cellbrook$Code" 29 ⟨"Cellbrook$Expr", "same", "(LCellbrook$Expr;LCellbrook$Expr;)Z"⟩ "Cellbrook", .methodLinkNest "Cellbrook$Store" 21 ⟨"Cellbrook$Node", "<init>", "()V"⟩ "Cellbrook", .methodLinkNest "Cellbrook$Code" 50 ⟨"Cellbrook$Expr", "countFree", "(LCellbrook$Expr;I)I"⟩ "Cellbrook", .methodLinkNest "Cellbrook$Code" 54 ⟨"Cellbrook$Expr", "exchanged", "(LCellbrook$Expr;II)LCellbrook$Expr;"⟩ "Cellbrook", .methodLinkNest "CellbrookModel" 72 ⟨"CellbrookModel$Book", "<init>", "()V"⟩ "CellbrookModel", .methodLinkNest "CellbrookModel" 140 ⟨"CellbrookModel$Cell", "<init>", "()V"⟩ "CellbrookModel", .methodLinkNest "CellbrookModel$Cell" 11 ⟨"CellbrookModel$Code", "<init>", "()V"⟩ "CellbrookModel", .methodLinkNest "CellbrookModel$Code" 45 ⟨"CellbrookModel", "free", "(LCellbrookModel$Part;I)I"⟩ "CellbrookModel", .methodLinkNest "CellbrookModel$Code" 41 ⟨"CellbrookModel", "same", "(LCellbrookModel$Part;LCellbrookModel$Part;)Z"⟩ "CellbrookModel", .methodLinkNest "CellbrookModel$Code" 49 ⟨"CellbrookModel", "resources", "(LCellbrookModel$Part;)I"⟩ "CellbrookModel", .methodLinkNest "CellbrookModel$Book" 111 ⟨"CellbrookModel", "sameThing", "(LCellbrookModel$Thing;LCellbrookModel$Thing;)Z"⟩ "CellbrookModel", .methodLinkNest "CellbrookModel$Book" 218 ⟨"CellbrookModel", "free", "(LCellbrookModel$Part;I)I"⟩ "CellbrookModel", .methodLinkNest "CellbrookModel$Book" 31 ⟨"CellbrookModel$Cell", "<init>", "()V"⟩ "CellbrookModel"]
def rTWat : List Nat := [636, 770, 823, 1620, 1877, 1878, 1879, 1880, 1881, 1882, 1883, 1884, 1885, 1886, 1887, 1888, 1889, 1890, 1891, 1892, 1893, 1894, 1895, 1896, 1897, 1898, 1899, 1900, 1901, 1905, 1906, 1907, 1908, 1909, 1910, 1911, 1912, 1913, 1914, 1915, 1916, 1917, 118, 189, 209, 216, 421, 520, 992, 1000, 1182, 1455, 1461, 1542, 1583, 1591, 1599, 1730, 1855]
def rCn (c : Nat) : String := (["Cellbrook", "Cellbrook$Version", "Cellbrook$Code", "Cellbrook$Links", "Cellbrook$Resources", "Cellbrook$Result", "Cellbrook$Store", "Cellbrook$Machine", "Cellbrook$Sheet", "Cellbrook$Expr", "CellbrookLaw", "CellbrookModel", "CellbrookModel$Book", "CellbrookModel$Part", "CellbrookModel$Cell", "CellbrookModel$Code", "CellbrookModel$Thing", "CellbrookModel$Around", "java/util/AbstractCollection", "java/util/AbstractList", "java/util/ArrayList", "java/util/Arrays"] : List String).getD c ""
