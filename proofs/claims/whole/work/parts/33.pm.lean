/-! What ArrayList's members do, as far as one call of the law comes (a list without elements; its first element). Their contracts (re_Pok of this) are still owed. -/
def rPM (y : Nat) (as : List Value) (h : re_H) : Option re_Res := match as with
  | .ref i :: r => match re_hg h i with
    | some (18, [ed, sz, mc]) =>
      if y = 1280 then some (0, .null, re_hw h i (18, [.retAddr 0, sz, mc]), 0, 0, 4, 100)
      else if y = 1281 then (match sz with
        | .int n => some (1, .int n, h, 0, 0, 0, 0)
        | _ => none)
      else if y = 1282 then (match r, ed, sz, mc with
        | [v], .retAddr 0, .int 0, .int m => some (1, .int 1, re_hq (re_hw h i (18, [.ref h.1, .int 1, .int (m + 1)])) (111, v :: List.replicate 9 .null), 1, 10, 8, 200)
        | _, _, _, _ => none)
      else if y = 1292 then (match ed, sz, mc with
        | .retAddr 0, .int 0, .int m => some (0, .null, re_hw h i (18, [ed, sz, .int (m + 1)]), 0, 0, 0, 0)
        | _, _, _ => none)
      else if y = 1290 then (match r, mc with
        | [.ref j], .int m => (match re_hg h j with
          | some (18, [.retAddr 0, .int 0, _]) => some (1, .int 0, re_hq (re_hw h i (18, [ed, sz, .int (m + 1)])) (111, []), 1, 0, 8, 200)
          | _ => none)
        | _, _ => none)
      else none
    | _ => none
  | _ => none
def rKk (SC : List Value) : re_K := (fun _ _ _ => none, fun _ _ _ => none, SC, rPM)
