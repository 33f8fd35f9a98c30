/-! Exprs as trees (a node's number tells what it is: 0 an expr, 1 what carries its second and third part). -/
abbrev Tr : Type := Std.DTreeMap.Internal.Impl (Nat × Nat × Int64) (fun _ => Unit)
/-- an expr: sort, which, number, parts -/
def tE (s w : Nat) (n : Int64) (a b c : Tr) : Tr := .inner 0 (s, w, n) () a (.inner 1 (0, 0, 0) () b c)
def nb_own (s w : Nat) : Nat := if s = 1 ∨ s = 6 ∨ s = 7 then 2 ^ w else 0
def nb_bnd (s w : Nat) : Nat := if s = 6 ∨ s = 7 then 2 ^ w else 0
def pts : Tr → Nat
  | .inner _ _ _ a (.inner _ _ _ b c) => 1 + pts a + pts b + pts c
  | _ => 0
def fre : Tr → Nat
  | .inner _ l _ a (.inner _ _ _ b c) => (if l.1 = 1 then 2 ^ l.2.1 else 0) ||| fre a ||| nb_wo (fre b) (nb_bnd l.1 l.2.1) ||| fre c
  | _ => 0
def men : Tr → Nat
  | .inner _ l _ a (.inner _ _ _ b c) => nb_own l.1 l.2.1 ||| men a ||| men b ||| men c
  | _ => 0
def inps : Tr → Nat
  | .inner _ l _ a (.inner _ _ _ b c) => (if l.1 = 2 then 2 ^ l.2.1 else 0) ||| inps a ||| inps b ||| inps c
  | _ => 0
def drw : Tr → Bool
  | .inner _ l _ a (.inner _ _ _ b c) => l.1 = 3 || drw a || drw b || drw c
  | _ => false
def dep : Tr → Nat
  | .inner _ _ _ a (.inner _ _ _ b c) => 1 + max (dep a) (max (dep b) (dep c))
  | _ => 0
theorem pts_E (s w : Nat) (n : Int64) (a b c : Tr) : pts (tE s w n a b c) = 1 + pts a + pts b + pts c := rfl
theorem fre_E (s w : Nat) (n : Int64) (a b c : Tr) : fre (tE s w n a b c) = (if s = 1 then 2 ^ w else 0) ||| fre a ||| nb_wo (fre b) (nb_bnd s w) ||| fre c := rfl
theorem men_E (s w : Nat) (n : Int64) (a b c : Tr) : men (tE s w n a b c) = nb_own s w ||| men a ||| men b ||| men c := rfl
theorem inps_E (s w : Nat) (n : Int64) (a b c : Tr) : inps (tE s w n a b c) = (if s = 2 then 2 ^ w else 0) ||| inps a ||| inps b ||| inps c := rfl
theorem drw_E (s w : Nat) (n : Int64) (a b c : Tr) : drw (tE s w n a b c) = (decide (s = 3) || drw a || drw b || drw c) := rfl
theorem dep_E (s w : Nat) (n : Int64) (a b c : Tr) : dep (tE s w n a b c) = 1 + max (dep a) (max (dep b) (dep c)) := rfl
def ib (b : Bool) : Int32 := bif b then 1 else 0
/-- an expr's cell -/
def nb_ec (s w : Nat) (n : Int64) (va vb vc : Value) (e : Tr) : re_C := (9, [.int (i32 s), .int (i32 w), .long n, va, vb, vc, .int (i32 (pts e)), .int (i32 (fre e)), .int (i32 (men e)), .int (i32 (inps e)), .int (ib (drw e))])
/-- the value stands for the tree -/
def ex (h : re_H) : Tr → Value → Prop
  | .inner k l _ a (.inner k2 l2 _ b c), v => (k = 0 ∧ k2 = 1 ∧ l2 = (0, 0, 0) ∧ l.1 < 9 ∧ l.2.1 < 16) ∧ ∃ (x : Nat) (va vb vc : Value), v = .ref x ∧ re_hg h x = some (nb_ec l.1 l.2.1 l.2.2 va vb vc (tE l.1 l.2.1 l.2.2 a b c)) ∧ ex h a va ∧ ex h b vb ∧ ex h c vc
  | .inner _ _ _ _ .leaf, _ => False
  | .leaf, v => v = .null
theorem ex_E {h : re_H} {s w : Nat} {n : Int64} {a b c : Tr} {v : Value} : ex h (tE s w n a b c) v ↔ (s < 9 ∧ w < 16) ∧ ∃ (x : Nat) (va vb vc : Value), v = .ref x ∧ re_hg h x = some (nb_ec s w n va vb vc (tE s w n a b c)) ∧ ex h a va ∧ ex h b vb ∧ ex h c vc := by
  constructor
  · intro z
    exact ⟨⟨z.1.2.2.2.1, z.1.2.2.2.2⟩, z.2⟩
  · intro z
    exact ⟨⟨rfl, rfl, rfl, z.1.1, z.1.2⟩, z.2⟩
/-- what an expr's value can be -/
theorem ex_cases {h : re_H} {e : Tr} {v : Value} (z : ex h e v) : (e = .leaf ∧ v = .null) ∨ ∃ (s w : Nat) (n : Int64) (a b c : Tr) (x : Nat) (va vb vc : Value), e = tE s w n a b c ∧ v = .ref x ∧ (s < 9 ∧ w < 16) ∧ re_hg h x = some (nb_ec s w n va vb vc e) ∧ ex h a va ∧ ex h b vb ∧ ex h c vc := by
  match e, z with
  | .leaf, z => exact Or.inl ⟨rfl, z⟩
  | .inner k l u a .leaf, z => exact absurd z id
  | .inner k l u a (.inner k2 l2 u2 b c), z =>
    obtain ⟨⟨rfl, rfl, rfl, h1, h2⟩, x, va, vb, vc, rfl, h3, h4, h5, h6⟩ := z
    exact Or.inr ⟨l.1, l.2.1, l.2.2, a, b, c, x, va, vb, vc, rfl, rfl, ⟨h1, h2⟩, h3, h4, h5, h6⟩
theorem ex_R {h : re_H} {e : Tr} {v : Value} (z : ex h e v) : re_R v := by
  rcases ex_cases z with ⟨-, rfl⟩ | ⟨s, w, n, a, b, c, x, va, vb, vc, -, rfl, -⟩
  · exact Or.inl rfl
  · exact Or.inr ⟨x, rfl⟩
theorem ex_leaf {h : re_H} {v : Value} : ex h .leaf v ↔ v = .null := Iff.rfl
theorem ex_keep {h h' : re_H} (k : ∀ x w, re_hg h x = some (9, w) → re_hg h' x = some (9, w)) : ∀ {e : Tr} {v : Value}, ex h e v → ex h' e v := by
  intro e
  match e with
  | .leaf => exact fun {v} z => z
  | .inner k0 l u a .leaf => exact fun {v} z => absurd z id
  | .inner k0 l u a (.inner k2 l2 u2 b c) =>
    intro v z
    obtain ⟨h1, x, va, vb, vc, h2, h3, h4, h5, h6⟩ := z
    exact ⟨h1, x, va, vb, vc, h2, k _ _ h3, ex_keep k h4, ex_keep k h5, ex_keep k h6⟩
theorem ex_null {h : re_H} {e : Tr} (z : ex h e .null) : e = .leaf := by
  rcases ex_cases z with ⟨h1, -⟩ | ⟨s, w, n, a, b, c, x, va, vb, vc, -, h1, -⟩
  · exact h1
  · cases h1
/-- what the parts tell of a part: its field k, or nothing -/
theorem ex_fd {h : re_H} {e : Tr} {x : Nat} (z : ex h e (.ref x)) : nb_fd h x 9 6 (.int (i32 (pts e))) ∧ nb_fd h x 9 7 (.int (i32 (fre e))) ∧ nb_fd h x 9 8 (.int (i32 (men e))) ∧ nb_fd h x 9 9 (.int (i32 (inps e))) ∧ nb_fd h x 9 10 (.int (ib (drw e))) := by
  rcases ex_cases z with ⟨-, h1⟩ | ⟨s, w, n, a, b, c, x', va, vb, vc, -, h1, -, h2, -⟩
  · cases h1
  · cases h1
    exact ⟨⟨_, h2, rfl⟩, ⟨_, h2, rfl⟩, ⟨_, h2, rfl⟩, ⟨_, h2, rfl⟩, ⟨_, h2, rfl⟩⟩
theorem ex_xk {h h' : re_H} (k : xk h h') {e : Tr} {v : Value} (z : ex h e v) : ex h' e v := ex_keep k z
theorem ib_01 (b : Bool) : ib b = 0 ∨ ib b = 1 := by cases b <;> simp [ib]
theorem ib_0 {b : Bool} : ib b = 0 ↔ b = false := by cases b <;> simp [ib]
