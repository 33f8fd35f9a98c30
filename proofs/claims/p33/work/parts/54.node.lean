/-! Values and scopes as trees; the nodes that stand for them. -/
def tN (n : Int64) : Tr := .inner 2 (0, 0, n) () .leaf .leaf
def tC (st rid : Nat) (code env : Tr) : Tr := .inner 3 (st, rid, 0) () code env
def tB (nm rid : Nat) (v rest : Tr) : Tr := .inner 4 (nm, rid, 0) () v rest
def isC : Tr → Bool
  | .inner k _ _ _ _ => k == 3
  | _ => false
/-- how functions are numbered (below the bound); the nodes that are held; the runs that made them -/
abbrev Ev : Type := (Nat → Nat) × Nat × (Nat → Prop) × (Nat → Nat)
def sg (E : Ev) (st : Nat) : Int64 := Int64.ofNat (E.1 st)
/-- the value stands for the scope, or the function -/
def nd (h : re_H) (E : Ev) : Tr → Value → Prop
  | .leaf, v => v = .null
  | .inner k l _ a b, v => ∃ (x : Nat) (c0 : Value) (nm : Int32) (nu : Int64) (c3 c4 c5 c6 c7 : Value), v = .ref x ∧ E.2.2.1 x ∧ E.2.2.2 x = l.2.1 ∧ re_hg h x = some (10, [c0, .int nm, .long nu, c3, c4, c5, c6, c7]) ∧ l.2.2 = 0 ∧ nd h E b c4 ∧
    ((k = 3 ∧ nu = sg E l.1 ∧ l.1 < E.2.1 ∧ c3 = .null ∧ ex h a c0 ∧ ¬ a = .leaf) ∨ (k = 4 ∧ c0 = .null ∧ nm = i32 l.1 ∧ l.1 < 16 ∧ ((c3 = .null ∧ a = tN nu) ∨ (isC a = true ∧ nd h E a c3))))
/-- what a name is: its number, its function -/
def vl (h : re_H) (E : Ev) (v : Tr) (nu : Int64) (f : Value) : Prop := (f = .null ∧ v = tN nu) ∨ (isC v = true ∧ nd h E v f)
theorem nd_C {h : re_H} {E : Ev} {st rid : Nat} {code env : Tr} {v : Value} : nd h E (tC st rid code env) v ↔ ∃ (x : Nat) (c0 : Value) (nm : Int32) (c4 c5 c6 c7 : Value), v = .ref x ∧ E.2.2.1 x ∧ E.2.2.2 x = rid ∧ re_hg h x = some (10, [c0, .int nm, .long (sg E st), .null, c4, c5, c6, c7]) ∧ nd h E env c4 ∧ st < E.2.1 ∧ ex h code c0 ∧ ¬ code = .leaf := by
  constructor
  · rintro ⟨x, c0, nm, nu, c3, c4, c5, c6, c7, h1, h2, h3, h4, -, h5, (⟨-, h6, h7, h8, h9, h10⟩ | ⟨h6, -⟩)⟩
    · subst h6; subst h8
      exact ⟨x, c0, nm, c4, c5, c6, c7, h1, h2, h3, h4, h5, h7, h9, h10⟩
    · exact absurd h6 (by decide)
  · rintro ⟨x, c0, nm, c4, c5, c6, c7, h1, h2, h3, h4, h5, h7, h9, h10⟩
    exact ⟨x, c0, nm, _, _, c4, c5, c6, c7, h1, h2, h3, h4, rfl, h5, Or.inl ⟨rfl, rfl, h7, rfl, h9, h10⟩⟩
theorem nd_B {h : re_H} {E : Ev} {nm rid : Nat} {a rest : Tr} {v : Value} : nd h E (tB nm rid a rest) v ↔ ∃ (x : Nat) (nu : Int64) (c3 c4 c5 c6 c7 : Value), v = .ref x ∧ E.2.2.1 x ∧ E.2.2.2 x = rid ∧ re_hg h x = some (10, [.null, .int (i32 nm), .long nu, c3, c4, c5, c6, c7]) ∧ nd h E rest c4 ∧ nm < 16 ∧ vl h E a nu c3 := by
  constructor
  · rintro ⟨x, c0, nm', nu, c3, c4, c5, c6, c7, h1, h2, h3, h4, -, h5, (⟨h6, -⟩ | ⟨-, h6, h7, h8, h9⟩)⟩
    · exact absurd h6 (by decide)
    · subst h6; subst h7
      exact ⟨x, nu, c3, c4, c5, c6, c7, h1, h2, h3, h4, h5, h8, h9⟩
  · rintro ⟨x, nu, c3, c4, c5, c6, c7, h1, h2, h3, h4, h5, h8, h9⟩
    exact ⟨x, .null, _, nu, c3, c4, c5, c6, c7, h1, h2, h3, h4, rfl, h5, Or.inr ⟨rfl, rfl, rfl, h8, h9⟩⟩
/-- what a node's tree can be -/
theorem nd_cases {h : re_H} {E : Ev} {t : Tr} {v : Value} (z : nd h E t v) : (t = .leaf ∧ v = .null) ∨ (∃ st rid code env, t = tC st rid code env) ∨ ∃ nm rid a rest, t = tB nm rid a rest := by
  match t, z with
  | .leaf, z => exact Or.inl ⟨rfl, z⟩
  | .inner k l u a b, ⟨x, c0, nm, nu, c3, c4, c5, c6, c7, h1, h2, h3, h4, h0, h5, h6⟩ =>
    obtain ⟨l1, l2, l3⟩ := l
    have h0 : l3 = 0 := h0
    subst h0
    rcases h6 with ⟨rfl, -⟩ | ⟨rfl, -⟩
    · exact Or.inr (Or.inl ⟨l1, l2, a, b, rfl⟩)
    · exact Or.inr (Or.inr ⟨l1, l2, a, b, rfl⟩)
theorem nd_R {h : re_H} {E : Ev} {t : Tr} {v : Value} (z : nd h E t v) : re_R v := by
  match t, z with
  | .leaf, z => exact Or.inl z
  | .inner k l u a b, ⟨x, c0, nm, nu, c3, c4, c5, c6, c7, h1, _⟩ => exact Or.inr ⟨x, h1⟩
theorem nd_null {h : re_H} {E : Ev} {t : Tr} (z : nd h E t .null) : t = .leaf := by
  match t, z with
  | .leaf, z => rfl
  | .inner k l u a b, ⟨x, c0, nm, nu, c3, c4, c5, c6, c7, h1, _⟩ => cases h1
theorem nd_at {h : re_H} {E : Ev} {t : Tr} {x : Nat} (z : nd h E t (.ref x)) : E.2.2.1 x ∧ ∃ w, re_hg h x = some (10, w) := by
  match t, z with
  | .leaf, z => cases z
  | .inner k l u a b, ⟨x', c0, nm, nu, c3, c4, c5, c6, c7, h1, h2, h3, h4, _⟩ => cases h1; exact ⟨h2, _, h4⟩
theorem isC_C {h : re_H} {E : Ev} {t : Tr} {v : Value} (hc : isC t = true) (z : nd h E t v) : ∃ st rid code env, t = tC st rid code env := by
  rcases nd_cases z with ⟨rfl, -⟩ | h1 | ⟨nm, rid, a, rest, rfl⟩
  · cases hc
  · exact h1
  · cases hc
theorem vl_R {h : re_H} {E : Ev} {v : Tr} {nu : Int64} {f : Value} (z : vl h E v nu f) : re_R f := z.elim (fun y => Or.inl y.1) (fun y => nd_R y.2)
theorem vl_cases {h : re_H} {E : Ev} {v : Tr} {nu : Int64} {f : Value} (z : vl h E v nu f) : (f = .null ∧ v = tN nu) ∨ ∃ st rid code env, v = tC st rid code env ∧ nd h E v f := by
  rcases z with z | ⟨hc, z⟩
  · exact Or.inl z
  · obtain ⟨st, rid, code, env, rfl⟩ := isC_C hc z
    exact Or.inr ⟨st, rid, code, env, rfl, z⟩
theorem vl_9 {h : re_H} {E : Ev} {v : Tr} {nu : Int64} {f : Value} (z : vl h E v nu f) : f = .null ∨ ∃ (b : Nat) (ws : List Value), f = .ref b ∧ re_hg h b = some (10, ws) := by
  rcases z with z | ⟨hc, z⟩
  · exact Or.inl z.1
  · rcases nd_R z with rfl | ⟨x, rfl⟩
    · exact Or.inl rfl
    · obtain ⟨-, w, hw⟩ := nd_at z
      exact Or.inr ⟨x, w, rfl, hw⟩
theorem nd_9 {h : re_H} {E : Ev} {t : Tr} {f : Value} (z : nd h E t f) : f = .null ∨ ∃ (b : Nat) (ws : List Value), f = .ref b ∧ re_hg h b = some (10, ws) := by
  rcases nd_R z with rfl | ⟨x, rfl⟩
  · exact Or.inl rfl
  · obtain ⟨-, w, hw⟩ := nd_at z
    exact Or.inr ⟨x, w, rfl, hw⟩
/-- from E to E': functions keep their numbers, what is held stays held -/
def eLe (E E' : Ev) : Prop := (∀ st, st < E.2.1 → E'.1 st = E.1 st) ∧ E.2.1 ≤ E'.2.1 ∧ ∀ x, E.2.2.1 x → E'.2.2.1 x ∧ E'.2.2.2 x = E.2.2.2 x
theorem eLe_rf (E : Ev) : eLe E E := ⟨fun _ _ => rfl, Nat.le_refl _, fun _ h => ⟨h, rfl⟩⟩
theorem eLe_tr {E E1 E2 : Ev} (a : eLe E E1) (b : eLe E1 E2) : eLe E E2 :=
  ⟨fun st hs => (b.1 st (Nat.lt_of_lt_of_le hs a.2.1)).trans (a.1 st hs), Nat.le_trans a.2.1 b.2.1, fun x hx => ⟨(b.2.2 x (a.2.2 x hx).1).1, (b.2.2 x (a.2.2 x hx).1).2.trans (a.2.2 x hx).2⟩⟩
theorem nd_keep {h h' : re_H} {E E' : Ev} (hk : ∀ x, E.2.2.1 x → re_hg h' x = re_hg h x) (hx : xk h h') (he : eLe E E') : ∀ {t : Tr} {v : Value}, nd h E t v → nd h' E' t v := by
  intro t
  induction t with
  | leaf => exact fun {v} z => z
  | inner k l u a b iha ihb =>
    intro v z
    obtain ⟨x, c0, nm, nu, c3, c4, c5, c6, c7, h1, h2, h3, h4, h0, h5, h6⟩ := z
    refine ⟨x, c0, nm, nu, c3, c4, c5, c6, c7, h1, (he.2.2 x h2).1, (he.2.2 x h2).2.trans h3, by rw [hk x h2]; exact h4, h0, ihb h5, ?_⟩
    rcases h6 with ⟨g1, g2, g3, g4, g5, g6⟩ | ⟨g1, g2, g3, g4, g5⟩
    · exact Or.inl ⟨g1, by rw [g2]; unfold sg; rw [he.1 _ g3], Nat.lt_of_lt_of_le g3 he.2.1, g4, ex_xk hx g5, g6⟩
    · exact Or.inr ⟨g1, g2, g3, g4, g5.elim Or.inl (fun y => Or.inr ⟨y.1, iha y.2⟩)⟩
theorem vl_keep {h h' : re_H} {E E' : Ev} (hk : ∀ x, E.2.2.1 x → re_hg h' x = re_hg h x) (hx : xk h h') (he : eLe E E') {v : Tr} {nu : Int64} {f : Value} (z : vl h E v nu f) : vl h' E' v nu f :=
  z.elim Or.inl (fun y => Or.inr ⟨y.1, nd_keep hk hx he y.2⟩)
/-- what is kept of a name: its kind, and its mark -/
def knd : Option Tr → Nat
  | none => 0
  | some v => if isC v then 2 else 1
def stp : Tr → Nat
  | .inner _ l _ _ _ => l.1
  | _ => 0
def num : Tr → Int64
  | .inner _ l _ _ _ => l.2.2
  | _ => 0
def mrk (E : Ev) : Option Tr → Int64
  | none => 0
  | some v => if isC v then sg E (stp v) else num v
/-- the same as it is kept -/
def smv : Option Tr → Option Tr → Bool
  | none, none => true
  | some u, some v => if isC u then isC v && stp u == stp v else !isC v && num u == num v
  | _, _ => false
def lkp (nm : Nat) : Cd → Option Tr
  | [] => none
  | q :: r => if q.1 = nm then some q.2 else lkp nm r
theorem lkp_pof {nm : Nat} : ∀ {C : Cd}, lkp nm C = (pof nm C).bind (fun i => (C[i]?).map (fun q => q.2))
  | [] => rfl
  | q :: r => by
    unfold lkp
    rw [pof_cons]
    split
    · rfl
    · rw [lkp_pof (C := r)]
      cases pof nm r with
      | none => rfl
      | some i => simp
