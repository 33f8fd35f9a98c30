/-! Tables as trees of comparisons. -/
def re_br {α : Type} (k : Nat) (a b : Nat → α) (y : Nat) : α := bif Nat.blt y k then a y else b y
def re_lf {α : Type} (k : Nat) (a : Option α) (y : Nat) : Option α := bif Nat.beq y k then a else none
