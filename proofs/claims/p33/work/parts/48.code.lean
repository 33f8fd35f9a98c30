/-! Code: what its cells are, and what is read of them. -/
abbrev Cd : Type := List (Nat × Tr)
def cdr (h : re_H) (p cnt : Nat) (ns es : List Value) : Prop := re_hg h p = some (2, [.int (i32 cnt), .ref (p + 1), .ref (p + 2)]) ∧ re_hg h (p + 1) = some (100, ns) ∧ re_hg h (p + 2) = some (103, es) ∧ ns.length = 4 ∧ es.length = 4
def nty (ns : List Value) : Prop := ∀ (i : Nat) (v : Value), ns[i]? = some v → ∃ x : Int32, v = .int x
def ety (h : re_H) (es : List Value) : Prop := ∀ (i : Nat) (v : Value), es[i]? = some v → v = .null ∨ ∃ (b : Nat) (ws : List Value), v = .ref b ∧ re_hg h b = some (9, ws)
def cdc (h : re_H) (ns es : List Value) (C : Cd) : Prop := C.length ≤ 4 ∧ ∀ (i n : Nat) (e : Tr), C[i]? = some (n, e) → ns[i]? = some (.int (i32 n)) ∧ n < 16 ∧ ∃ b : Nat, es[i]? = some (.ref b) ∧ ex h e (.ref b) ∧ pts e ≤ 30
/-- the code at p -/
def cd (h : re_H) (p : Nat) (C : Cd) : Prop := ∃ ns es : List Value, cdr h p C.length ns es ∧ nty ns ∧ ety h es ∧ cdc h ns es C
theorem ety_R {h : re_H} {es : List Value} (t : ety h es) {i : Nat} {v : Value} (e : es[i]? = some v) : re_R v := (t i v e).elim Or.inl (fun ⟨b, _, z, _⟩ => Or.inr ⟨b, z⟩)
theorem ety_xk {h h' : re_H} (k : xk h h') {es : List Value} (t : ety h es) : ety h' es := fun i v e => (t i v e).elim Or.inl (fun ⟨b, ws, z, g⟩ => Or.inr ⟨b, ws, z, k _ _ g⟩)
theorem cdc_xk {h h' : re_H} (k : xk h h') {ns es : List Value} {C : Cd} (c : cdc h ns es C) : cdc h' ns es C := ⟨c.1, fun i n e z => by
  obtain ⟨h1, h2, b, h3, h4, h5⟩ := c.2 i n e z
  exact ⟨h1, h2, b, h3, ex_xk k h4, h5⟩⟩
theorem cdr_fr {h h' : re_H} {p cnt : Nat} {ns es : List Value} (e : ∀ a, p ≤ a → a ≤ p + 2 → re_hg h' a = re_hg h a) (c : cdr h p cnt ns es) : cdr h' p cnt ns es := by
  unfold cdr at c ⊢
  rw [e p (by omega) (by omega), e (p + 1) (by omega) (by omega), e (p + 2) (by omega) (by omega)]
  exact c
theorem cd_fr {h h' : re_H} {p : Nat} {C : Cd} (e : ∀ a, p ≤ a → a ≤ p + 2 → re_hg h' a = re_hg h a) (k : xk h h') (c : cd h p C) : cd h' p C := by
  obtain ⟨ns, es, h1, h2, h3, h4⟩ := c
  exact ⟨ns, es, cdr_fr e h1, h2, ety_xk k h3, cdc_xk k h4⟩
theorem dep_pts : ∀ e : Tr, dep e ≤ pts e
  | .leaf => Nat.le_refl _
  | .inner _ _ _ _ .leaf => Nat.le_refl _
  | .inner _ _ _ a (.inner _ _ _ b c) => by
    have := dep_pts a
    have := dep_pts b
    have := dep_pts c
    show 1 + max (dep a) (max (dep b) (dep c)) ≤ 1 + pts a + pts b + pts c
    omega
theorem dropc {α : Type} {C : List α} {i : Nat} {q : α} (h : C[i]? = some q) : C.drop i = q :: C.drop (i + 1) := by
  obtain ⟨hi, rfl⟩ := List.getElem?_eq_some_iff.mp h
  exact List.drop_eq_getElem_cons hi
theorem dropn {α : Type} {C : List α} {i : Nat} (h : C.length ≤ i) : C.drop i = [] := List.drop_eq_nil_of_le h
theorem getl {α : Type} {C : List α} {i : Nat} (h : i < C.length) : ∃ q, C[i]? = some q := ⟨C[i], List.getElem?_eq_getElem h⟩
def pof (nm : Nat) : Cd → Option Nat
  | [] => none
  | q :: r => if q.1 = nm then some 0 else (pof nm r).map (· + 1)
theorem pof_cons (nm : Nat) (q : Nat × Tr) (r : Cd) : pof nm (q :: r) = if q.1 = nm then some 0 else (pof nm r).map (· + 1) := rfl
def oI : Option Nat → Int32
  | some i => i32 i
  | none => -1
def dfd (C : Cd) : Nat := C.foldl (fun m q => m ||| 2 ^ q.1) 0
def rds (C : Cd) : Nat := (C.foldl (fun (m : Nat × Nat) q => (m.1 ||| nb_wo (fre q.2) m.2, m.2 ||| 2 ^ q.1)) (0, 0)).1
def mnt (C : Cd) : Nat := C.foldl (fun m q => m ||| men q.2) (dfd C)
def ius (C : Cd) : Nat := C.foldl (fun m q => m ||| inps q.2) 0
def cdw (C : Cd) : Bool := C.any (fun q => drw q.2)
section CD
variable {SC : List Value} {d q : Nat} {h : re_H} {Q : Nat → Value → re_H → Prop} {p : Nat} {C : Cd}
theorem c135 {nm : Nat} (hn : nm < 16) (c : cd h p C) (K : Q 1 (.int (oI (pof nm C))) h) : wp SC 135 d q 0 [(0, .ref p), (1, .int (i32 nm))] [] h Q := by
  obtain ⟨ns, es, c1, c2, c3, c4⟩ := c
  have loop : ∀ k i : Nat, i + k = C.length → (pof nm C = (pof nm (C.drop i)).map (· + i)) → wp SC 135 d q 2 [(0, .ref p), (1, .int (i32 nm)), (2, .int (i32 i))] [] h Q := by
    intro k
    induction k with
    | zero =>
      intro i hi he
      refine B135_2 ⟨_, c1.1, rfl⟩ (fun _ => B135_33 ?_) (fun g => absurd ((i3_lt (by have := c4.1; omega) (by have := c4.1; omega)).mp g) (by omega))
      rw [he, dropn (by omega)] at K
      exact K
    | succ k ih =>
      intro i hi he
      have hC := c4.1
      obtain ⟨⟨n, e⟩, hq⟩ := getl (C := C) (i := i) (by omega)
      obtain ⟨g1, g2, b, g3, g4, g5⟩ := c4.2 i n e hq
      refine B135_2 ⟨_, c1.1, rfl⟩ (fun g => absurd ((i3_lt (by omega) (by omega)).mpr (by omega)) g) (fun _ => ?_)
      refine B135_10 (fun g => absurd ((i3_lt (by omega) (by omega)).mpr (by omega)) g) (fun _ => ?_)
      rw [dropc hq] at he
      refine B135_15 ⟨_, c1.1, rfl⟩ ⟨_, i, c1.2.1, rfl, by omega, g1⟩ (fun g => B135_27 ?_) (fun g => B135_25 ?_)
      · rw [i3_add]
        refine ih (i + 1) (by omega) ?_
        rw [he, pof_cons, if_neg (fun z => g (by rw [← z]))]
        rw [Option.map_map]
        congr 1
        funext x
        show x + 1 + i = x + (i + 1)
        omega
      · rw [he, pof_cons, if_pos ((i3_eq (by omega) (by omega)).mp g), Option.map_some, Nat.zero_add] at K
        exact K
  refine B135_0 (loop C.length 0 (by omega) ?_)
  simp
theorem c130 (c : cd h p C) (K : Q 1 (.int (i32 (dfd C))) h) : wp SC 130 d q 0 [(0, .ref p)] [] h Q := by
  obtain ⟨ns, es, c1, c2, c3, c4⟩ := c
  have hC := c4.1
  have loop : ∀ k i m : Nat, i + k = C.length → dfd C = (C.drop i).foldl (fun m q => m ||| 2 ^ q.1) m → wp SC 130 d q 4 [(0, .ref p), (1, .int (i32 m)), (2, .int (i32 i))] [] h Q := by
    intro k
    induction k with
    | zero =>
      intro i m hi he
      refine B130_4 ⟨_, c1.1, rfl⟩ (fun _ => B130_29 ?_) (fun g => absurd ((i3_lt (by omega) (by omega)).mp g) (by omega))
      rw [he, dropn (by omega)] at K
      exact K
    | succ k ih =>
      intro i m hi he
      obtain ⟨⟨n, e⟩, hq⟩ := getl (C := C) (i := i) (by omega)
      obtain ⟨g1, g2, b, g3, g4, g5⟩ := c4.2 i n e hq
      refine B130_4 ⟨_, c1.1, rfl⟩ (fun g => absurd ((i3_lt (by omega) (by omega)).mpr (by omega)) g) (fun _ => ?_)
      refine B130_12 ⟨_, c1.1, rfl⟩ ⟨_, i, c1.2.1, rfl, by omega, g1⟩ ?_
      rw [i3_add, i3_shl (by omega), i3_or]
      exact ih (i + 1) _ (by omega) (by rw [he, dropc hq]; rfl)
  exact B130_0 (loop C.length 0 0 (by omega) rfl)
theorem c129 (c : cd h p C) (K : Q 1 (.int (i32 (rds C))) h) : wp SC 129 d q 0 [(0, .ref p)] [] h Q := by
  obtain ⟨ns, es, c1, c2, c3, c4⟩ := c
  have hC := c4.1
  have loop : ∀ k i m f : Nat, i + k = C.length → rds C = ((C.drop i).foldl (fun (m : Nat × Nat) q => (m.1 ||| nb_wo (fre q.2) m.2, m.2 ||| 2 ^ q.1)) (m, f)).1 → wp SC 129 d q 6 [(0, .ref p), (1, .int (i32 m)), (2, .int (i32 f)), (3, .int (i32 i))] [] h Q := by
    intro k
    induction k with
    | zero =>
      intro i m f hi he
      refine B129_6 ⟨_, c1.1, rfl⟩ (fun _ => B129_60 ?_) (fun g => absurd ((i3_lt (by omega) (by omega)).mp g) (by omega))
      rw [he, dropn (by omega)] at K
      exact K
    | succ k ih =>
      intro i m f hi he
      obtain ⟨⟨n, e⟩, hq⟩ := getl (C := C) (i := i) (by omega)
      obtain ⟨g1, g2, b, g3, g4, g5⟩ := c4.2 i n e hq
      refine B129_6 ⟨_, c1.1, rfl⟩ (fun g => absurd ((i3_lt (by omega) (by omega)).mpr (by omega)) g) (fun _ => ?_)
      refine B129_14 ⟨_, c1.1, rfl⟩ (Or.inr ⟨b, rfl⟩) ⟨_, i, c1.2.2.1, rfl, by omega, g3⟩ (fun z => by cases z) (fun y hy => ?_)
      refine B129_28 ⟨_, c1.1, rfl⟩ (Or.inr ⟨b, rfl⟩) ⟨_, i, c1.2.2.1, rfl, by omega, g3⟩ rfl (ex_fd g4).2.1 ?_
      refine B129_41 ⟨_, c1.1, rfl⟩ ⟨_, i, c1.2.1, rfl, by omega, g1⟩ ?_
      rw [i3_add, i3_shl (by omega), i3_wo, i3_or, i3_or]
      exact ih (i + 1) _ _ (by omega) (by rw [he, dropc hq]; rfl)
  exact B129_0 (loop C.length 0 0 0 (by omega) rfl)
theorem c133 (c : cd h p C) (K : Q 1 (.int (i32 (ius C))) h) : wp SC 133 d q 0 [(0, .ref p)] [] h Q := by
  obtain ⟨ns, es, c1, c2, c3, c4⟩ := c
  have hC := c4.1
  have loop : ∀ k i m : Nat, i + k = C.length → ius C = (C.drop i).foldl (fun m q => m ||| inps q.2) m → wp SC 133 d q 4 [(0, .ref p), (1, .int (i32 m)), (2, .int (i32 i))] [] h Q := by
    intro k
    induction k with
    | zero =>
      intro i m hi he
      refine B133_4 ⟨_, c1.1, rfl⟩ (fun _ => B133_43 ?_) (fun g => absurd ((i3_lt (by omega) (by omega)).mp g) (by omega))
      rw [he, dropn (by omega)] at K
      exact K
    | succ k ih =>
      intro i m hi he
      obtain ⟨⟨n, e⟩, hq⟩ := getl (C := C) (i := i) (by omega)
      obtain ⟨g1, g2, b, g3, g4, g5⟩ := c4.2 i n e hq
      refine B133_4 ⟨_, c1.1, rfl⟩ (fun g => absurd ((i3_lt (by omega) (by omega)).mpr (by omega)) g) (fun _ => ?_)
      refine B133_12 ⟨_, c1.1, rfl⟩ (Or.inr ⟨b, rfl⟩) ⟨_, i, c1.2.2.1, rfl, by omega, g3⟩ (fun z => by cases z) (fun y hy => ?_)
      refine B133_26 ⟨_, c1.1, rfl⟩ (Or.inr ⟨b, rfl⟩) ⟨_, i, c1.2.2.1, rfl, by omega, g3⟩ rfl (ex_fd g4).2.2.2.1 ?_
      refine B133_35 ?_
      rw [i3_add, i3_or]
      exact ih (i + 1) _ (by omega) (by rw [he, dropc hq]; rfl)
  exact B133_0 (loop C.length 0 0 (by omega) rfl)
theorem c139 (c : cd h p C) (K : Q 1 (.int (i32 (mnt C))) h) : wp SC 139 (d + 1) q 0 [(0, .ref p)] [] h Q := by
  have c0 := c
  obtain ⟨ns, es, c1, c2, c3, c4⟩ := c
  have hC := c4.1
  have loop : ∀ k i m : Nat, i + k = C.length → mnt C = (C.drop i).foldl (fun m q => m ||| men q.2) m → wp SC 139 (d + 1) q 7 [(0, .ref p), (1, .int (i32 m)), (2, .int (i32 i))] [] h Q := by
    intro k
    induction k with
    | zero =>
      intro i m hi he
      refine B139_7 ⟨_, c1.1, rfl⟩ (fun _ => B139_46 ?_) (fun g => absurd ((i3_lt (by omega) (by omega)).mp g) (by omega))
      rw [he, dropn (by omega)] at K
      exact K
    | succ k ih =>
      intro i m hi he
      obtain ⟨⟨n, e⟩, hq⟩ := getl (C := C) (i := i) (by omega)
      obtain ⟨g1, g2, b, g3, g4, g5⟩ := c4.2 i n e hq
      refine B139_7 ⟨_, c1.1, rfl⟩ (fun g => absurd ((i3_lt (by omega) (by omega)).mpr (by omega)) g) (fun _ => ?_)
      refine B139_15 ⟨_, c1.1, rfl⟩ (Or.inr ⟨b, rfl⟩) ⟨_, i, c1.2.2.1, rfl, by omega, g3⟩ (fun z => by cases z) (fun y hy => ?_)
      refine B139_29 ⟨_, c1.1, rfl⟩ (Or.inr ⟨b, rfl⟩) ⟨_, i, c1.2.2.1, rfl, by omega, g3⟩ rfl (ex_fd g4).2.2.1 ?_
      refine B139_38 ?_
      rw [i3_add, i3_or]
      exact ih (i + 1) _ (by omega) (by rw [he, dropc hq]; rfl)
  exact B139_0 c1.1 rfl (c130 c0 (ret1 (B139_4 (loop C.length 0 (dfd C) (by omega) rfl))))
theorem c132 (c : cd h p C) (K : Q 1 (.int (ib (cdw C))) h) : wp SC 132 d q 0 [(0, .ref p)] [] h Q := by
  obtain ⟨ns, es, c1, c2, c3, c4⟩ := c
  have hC := c4.1
  have loop : ∀ k i : Nat, i + k = C.length → cdw C = (C.drop i).any (fun q => drw q.2) → wp SC 132 d q 2 [(0, .ref p), (1, .int (i32 i))] [] h Q := by
    intro k
    induction k with
    | zero =>
      intro i hi he
      refine B132_2 ⟨_, c1.1, rfl⟩ (fun _ => B132_39 ?_) (fun g => absurd ((i3_lt (by omega) (by omega)).mp g) (by omega))
      rw [he, dropn (by omega)] at K
      exact K
    | succ k ih =>
      intro i hi he
      obtain ⟨⟨n, e⟩, hq⟩ := getl (C := C) (i := i) (by omega)
      obtain ⟨g1, g2, b, g3, g4, g5⟩ := c4.2 i n e hq
      have he' : cdw C = (drw e || (C.drop (i + 1)).any (fun q => drw q.2)) := by rw [he, dropc hq]; rfl
      refine B132_2 ⟨_, c1.1, rfl⟩ (fun g => absurd ((i3_lt (by omega) (by omega)).mpr (by omega)) g) (fun _ => ?_)
      refine B132_10 ⟨_, c1.1, rfl⟩ (Or.inr ⟨b, rfl⟩) ⟨_, i, c1.2.2.1, rfl, by omega, g3⟩ (fun z => by cases z) (fun y hy => ?_)
      refine B132_19 ⟨_, c1.1, rfl⟩ (Or.inr ⟨b, rfl⟩) ⟨_, i, c1.2.2.1, rfl, by omega, g3⟩ rfl (ex_fd g4).2.2.2.2 (fun z => B132_33 ?_) (fun z => B132_31 ?_)
      · rw [i3_add]
        exact ih (i + 1) (by omega) (by rw [he', ib_0.mp z]; rfl)
      · have : drw e = true := by cases hz : drw e with
          | true => rfl
          | false => exact absurd (ib_0.mpr hz) z
        rw [he', this] at K
        exact K
  exact B132_0 (loop C.length 0 (by omega) rfl)
end CD
