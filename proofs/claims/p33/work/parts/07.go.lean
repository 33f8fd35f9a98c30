/-! The walk itself. A program's tables: instructions, locals, return types, links. -/
abbrev re_G : Type := (Nat → Nat → Option Instr) × (Nat → Nat) × (Nat → Option FieldType) × (Nat → Nat → Option (Nat × Nat × FieldType × Nat)) × (Nat → Nat → Option (Nat × Nat × Nat)) × (Nat → Nat → Option (Nat × List Value)) × (Nat → Nat → Option Nat) × (Nat → Nat → Option Nat) × (Nat → Nat → Option Value) × (Nat → Nat → Bool) × (Nat → Bool) × (Nat → Nat) × Nat × (Nat → List (Nat × Nat × Nat × Nat)) × (Nat → Nat → Option Nat) × (Nat → Nat → Option (Nat × Nat))
abbrev re_ins (G : re_G) : Nat → Nat → Option Instr := G.1
abbrev re_nl (G : re_G) : Nat → Nat := G.2.1
abbrev re_rt (G : re_G) : Nat → Option FieldType := G.2.2.1
abbrev re_fl (G : re_G) : Nat → Nat → Option (Nat × Nat × FieldType × Nat) := G.2.2.2.1
abbrev re_cl (G : re_G) : Nat → Nat → Option (Nat × Nat × Nat) := G.2.2.2.2.1
abbrev re_nw (G : re_G) : Nat → Nat → Option (Nat × List Value) := G.2.2.2.2.2.1
abbrev re_an (G : re_G) : Nat → Nat → Option Nat := G.2.2.2.2.2.2.1
/-- at a method's place: an exception of that number is made and thrown -/
abbrev re_tw (G : re_G) : Nat → Nat → Option Nat := G.2.2.2.2.2.2.2.1
abbrev re_ks (G : re_G) : Nat → Nat → Option Value := G.2.2.2.2.2.2.2.2.1
abbrev re_ec (G : re_G) : Nat → Nat → Bool := G.2.2.2.2.2.2.2.2.2.1
abbrev re_isI (G : re_G) : Nat → Bool := G.2.2.2.2.2.2.2.2.2.2.1
/-- the class of a method, by its place among the classes -/
abbrev re_ct (G : re_G) : Nat → Nat := G.2.2.2.2.2.2.2.2.2.2.2.1
abbrev re_nE (G : re_G) : Nat := G.2.2.2.2.2.2.2.2.2.2.2.2.1
/-- a method's handlers: from, to, at, what -/
abbrev re_hh (G : re_G) : Nat → List (Nat × Nat × Nat × Nat) := G.2.2.2.2.2.2.2.2.2.2.2.2.2.1
/-- what a handler takes: the number of the exception -/
abbrev re_hk (G : re_G) : Nat → Nat → Option Nat := G.2.2.2.2.2.2.2.2.2.2.2.2.2.2.1
/-- members of the library that are known: kind, the method that a call through an interface comes to -/
abbrev re_jd (G : re_G) : Nat → Nat → Option (Nat × Nat) := G.2.2.2.2.2.2.2.2.2.2.2.2.2.2.2
/-- an outcome: how it ends (0 void, 1 int, 2 long, 3 a reference, 4 + e thrown), the answer, the heap; cells, slots, frames and locals that it takes -/
abbrev re_Res : Type := Nat × Value × re_H × Nat × Nat × Nat × Nat
def re_add (k n : Nat) (r : re_Res) : re_Res := (r.1, r.2.1, r.2.2.1, k + r.2.2.2.1, n + r.2.2.2.2.1, r.2.2.2.2.2.1, r.2.2.2.2.2.2)
def re_aft (ml : Nat) (a r : re_Res) : re_Res := (r.1, r.2.1, r.2.2.1, a.2.2.2.1 + r.2.2.2.1, a.2.2.2.2.1 + r.2.2.2.2.1, max (a.2.2.2.2.2.1 + 1) r.2.2.2.2.2.1, max (8 + (ml + 11) + a.2.2.2.2.2.2) r.2.2.2.2.2.2)
def re_mx (f n : Nat) (r : re_Res) : re_Res := (r.1, r.2.1, r.2.2.1, r.2.2.2.1, r.2.2.2.2.1, max f r.2.2.2.2.2.1, max n r.2.2.2.2.2.2)
def re_ret (rt : Option FieldType) (ins : Instr) (st : List Value) : Option (Nat × Value) := match ins with
  | .return_ => match rt, st with
    | none, [] => some (0, .null)
    | _, _ => none
  | .ireturn => match rt, st with
    | some ty, [.int v] => if narrow ty (.int v) = .int v then some (1, .int v) else none
    | some .int, [.float v] => some (1, .float v)
    | _, _ => none
  | .lreturn => match rt, st with
    | some .long, [.long v] => some (2, .long v)
    | some .long, [.double v] => some (2, .double v)
    | _, _ => none
  | .areturn => match rt, st with
    | some (.object _), [.ref i] => some (3, .ref i)
    | some (.object _), [.null] => some (3, .null)
    | some (.array _), [.ref i] => some (3, .ref i)
    | some (.array _), [.null] => some (3, .null)
    | _, _ => none
  | _ => none
/-- what makes a cell: the next pc, the stack, the cell -/
def re_mk (nw : Nat → Option (Nat × List Value)) (an : Nat → Option Nat) (pc : Nat) (st : List Value) (hn : Nat) (ins : Instr) : Option (Nat × List Value × re_C) := match ins with
  | .new idx => match nw idx with
    | some d => if d.1 < 100 then some (pc + 3, .ref hn :: st, d) else none
    | none => none
  | .newarray .int => match st with
    | .int n :: r => if ¬ n < 0 ∧ n.toNatClampNeg * 4 ≤ 536870912 then some (pc + 2, .ref hn :: r, (100, List.replicate n.toNatClampNeg (.int 0))) else none
    | _ => none
  | .newarray .long => match st with
    | .int n :: r => if ¬ n < 0 ∧ n.toNatClampNeg * 8 ≤ 536870912 then some (pc + 2, .ref hn :: r, (101, List.replicate n.toNatClampNeg (.long 0))) else none
    | _ => none
  | .newarray .boolean => match st with
    | .int n :: r => if ¬ n < 0 ∧ n.toNatClampNeg * 4 ≤ 536870912 then some (pc + 2, .ref hn :: r, (102, List.replicate n.toNatClampNeg (.int 0))) else none
    | _ => none
  | .anewarray idx => match an idx, st with
    | some j, .int n :: r => if ¬ n < 0 ∧ n.toNatClampNeg * 4 ≤ 536870912 then some (pc + 3, .ref hn :: r, (100 + j, List.replicate n.toNatClampNeg .null)) else none
    | _, _ => none
  | _ => none
/-- what is pushed from a constant pool -/
def re_cst (ks : Nat → Option Value) (pc : Nat) (ins : Instr) : Option (Nat × Value) := match ins with
  | .ldc idx => match ks idx with
    | some (.int v) => some (pc + 2, .int v)
    | _ => none
  | .ldc_w idx => match ks idx with
    | some (.int v) => some (pc + 3, .int v)
    | _ => none
  | .ldc2_w idx => match ks idx with
    | some (.long v) => some (pc + 3, .long v)
    | _ => none
  | _ => none
def re_inv (cl : Nat → Option (Nat × Nat × Nat)) (ins : Instr) : Option (Nat × Nat × Nat) := match ins with
  | .invokestatic idx => match cl idx with
    | some (0, y, n) => some (0, y, n)
    | some (8, y, n) => some (8, y, n)
    | some (4, y, n) => some (4, y, n)
    | _ => none
  | .invokevirtual idx => match cl idx with
    | some (1, y, n) => some (1, y, n)
    | some (5, y, n) => some (5, y, n)
    | _ => none
  | .invokespecial idx => match cl idx with
    | some (2, y, n) => some (2, y, n)
    | some (3, y, n) => some (3, y, n)
    | some (6, y, n) => some (6, y, n)
    | _ => none
  | _ => none
def re_cat (st : List Value) : Nat := (st.map fun v => v.category).sum
def re_vl (r : re_Res) (rest : List Value) : List Value := if r.1 = 0 then rest else r.2.1 :: rest
/-- who takes the exception x: nobody, or the handler there; none: not known -/
def re_hf (hk : Nat → Option Nat) (pc x : Nat) : List (Nat × Nat × Nat × Nat) → Option (Option Nat)
  | [] => some none
  | z :: r => if z.1 ≤ pc ∧ pc < z.2.1 then (match hk z.2.2.2 with
    | some x' => if x' = x then some (some z.2.2.1) else re_hf hk pc x r
    | none => none) else re_hf hk pc x r
/-- a handler begins with a store: the local, the next pc -/
def re_hs (nL : Nat) (ins : Option Instr) (h : Nat) : Option (Nat × Nat) := match ins with
  | some (.astore_n k) => if (k : Nat) < nL then some ((k : Nat), h + 1) else none
  | some (.astore k) => if k < nL then some (k, h + 2) else none
  | _ => none
/-- answers, and methods whose outcome is known -/
abbrev re_K : Type := re_O × re_A × List Value × (Nat → List Value → re_H → Option re_Res)
def re_lv9 (lv : List (Nat × Value)) (k : Nat) : List (Nat × Value) := lv.filter (fun q => !(q.1 == k) && !(q.1 + 1 == k && re_c2 lv q.1))
/-- what a known member of the library does; frames and locals that it takes -/
def re_jdk (jd : Nat → Option (Nat × Nat)) (pc : Nat) (st : List Value) (ins : Instr) : Option (Nat × List Value × Nat × Nat) := match ins with
  | .invokestatic idx => match jd idx, st with
    | some (1, _), .long y :: .long x :: r => if re_cat r ≤ 8 then some (pc + 3, .long (if y < x then y else x) :: r, 1, 23) else none
    | _, _ => none
  | _ => none
def re_go (G : re_G) (O : re_K) : Nat → Nat → Nat → List (Nat × Value) → List Value → re_H → Option re_Res
  | 0, _, _, _, _, _ => none
  | n + 1, y, pc, lv, st, h => match re_tw G y pc with
    | some x => some (4 + x, .null, h, 1, 6, 6, re_cat st + 82)
    | none => match re_ins G y pc with
    | none => none
    | some ins => match re_pure O.1 (re_nl G y) pc lv st ins with
      | some q => re_go G O n y q.1 q.2.1 q.2.2 h
      | none => match re_hp (re_nE G) (re_fl G y) (re_ec G) (re_isI G y) pc st h ins with
        | some q => re_go G O n y q.1 lv q.2.1 q.2.2
        | none => match re_ret (re_rt G y) ins st with
          | some q => some (q.1, q.2, h, 0, 0, 0, 0)
          | none => match re_mk (re_nw G y) (re_an G y) pc st h.1 ins with
            | some q => (re_go G O n y q.1 lv q.2.1 (re_hq h q.2.2)).map (re_add 1 q.2.2.2.length)
            | none => match re_cst (re_ks G y) pc ins with
              | some q => re_go G O n y q.1 lv (q.2 :: st) h
              | none => match re_acm pc st ins with
              | some q => re_go G O n y q.1 lv q.2 h
              | none => match re_ora O.2.1 pc st ins with
              | some q => re_go G O n y q.1 lv q.2 h
              | none => match re_scr O.2.2.1 pc st ins with
              | some q => re_go G O n y q.1 lv q.2 h
              | none => match re_jdk (re_jd G y) pc st ins with
              | some q => (re_go G O n y q.1 lv q.2.1 h).map (re_mx q.2.2.1 q.2.2.2)
              | none => match re_inv (re_cl G y) ins with
                | none => none
                | some (k, y', na) => if k = 3 then (match st with
                    | .ref _ :: r => if re_cat r ≤ 8 then (re_go G O n y (pc + 3) lv r h).map (re_mx 1 20) else none
                    | _ => none)
                  else if k = 0 ∨ k = 4 ∨ k = 8 then (
                    if re_cat (st.drop na) ≤ 8 ∧ (st.take na).length = na ∧ re_cat (st.take na).reverse ≤ re_nl G y' then
                    match (match O.2.2.2 y' (st.take na).reverse h with
                      | some a => some a
                      | none => re_go G O n y' 0 (lv_args 0 (st.take na).reverse) [] h) with
                    | none => none
                    | some a => if a.1 < 4 then (re_go G O n y (pc + 3) lv (re_vl a (st.drop na)) a.2.2.1).map (re_aft (re_nl G y') a) else (match re_hf (re_hk G y) pc (a.1 - 4) (re_hh G y) with
                      | some none => some (re_aft (re_nl G y') a (a.1, a.2.1, a.2.2.1, 0, 0, 0, 0))
                      | some (some hp) => (match re_hs (re_nl G y) (re_ins G y hp) hp with
                        | some (k, npc) => (re_go G O n y npc (re_lv9 lv k) [] a.2.2.1).map (re_aft (re_nl G y') a)
                        | none => none)
                      | none => none)
                    else none)
                  else (match st.drop na with
                    | .ref i :: r => if re_cat r ≤ 8 ∧ (st.take na).length = na ∧ re_cat (.ref i :: (st.take na).reverse) ≤ re_nl G y' then
                      match re_hg h i with
                      | some (t, _) => if t = re_ct G y' then
                        match (match O.2.2.2 y' (.ref i :: (st.take na).reverse) h with
                          | some a => some a
                          | none => re_go G O n y' 0 (lv_args 0 (.ref i :: (st.take na).reverse)) [] h) with
                        | none => none
                        | some a => if a.1 < 4 then (re_go G O n y (pc + 3) lv (re_vl a r) a.2.2.1).map (re_aft (re_nl G y') a) else (match re_hf (re_hk G y) pc (a.1 - 4) (re_hh G y) with
                          | some none => some (re_aft (re_nl G y') a (a.1, a.2.1, a.2.2.1, 0, 0, 0, 0))
                          | some (some hp) => (match re_hs (re_nl G y) (re_ins G y hp) hp with
                            | some (k, npc) => (re_go G O n y npc (re_lv9 lv k) [] a.2.2.1).map (re_aft (re_nl G y') a)
                            | none => none)
                          | none => none)
                        else none
                      | none => none
                      else none
                    | _ => none)
