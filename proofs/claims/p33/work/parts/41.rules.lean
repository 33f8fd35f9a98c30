/-! What a method does from a place on: the walk's judgement, and its rows, an instruction each. -/
def rO (SC : List Value) : re_K := (fun _ _ _ => none, fun _ _ _ => none, SC, fun _ _ _ => none)
/-- from pc on, the method y ends with Q (how: 0 void, 1 int, 2 long, 3 a reference, 4 + e thrown; the answer; the heap), its calls at most d deep, its slots at most 11 a cell and s -/
def wp (SC : List Value) (y d s pc : Nat) (lv : List (Nat × Value)) (st : List Value) (h : re_H) (Q : Nat → Value → re_H → Prop) : Prop :=
  ∃ (n : Nat) (r : re_Res), re_go rG (rO SC) n y pc lv st h = some r ∧ (r.2.2.1.1 = h.1 + r.2.2.2.1 ∧ r.2.2.2.2.1 ≤ 11 * r.2.2.2.1 + s ∧ r.2.2.2.2.2.1 ≤ d + 6 ∧ r.2.2.2.2.2.2 ≤ 100 * d + 200) ∧ Q r.1 r.2.1 r.2.2.1
/-- the instruction at a place -/
abbrev ft (y pc : Nat) (ins : Instr) : Prop := re_tw rG y pc = none ∧ re_ins rG y pc = some ins
/-- null, or a reference -/
def re_R (v : Value) : Prop := v = .null ∨ ∃ a, v = .ref a
abbrev i32 (n : Nat) : Int32 := Int32.ofNat n
section WP
variable {SC : List Value} {y d s pc : Nat} {lv : List (Nat × Value)} {st : List Value} {h : re_H} {Q Q' : Nat → Value → re_H → Prop} {ins : Instr}
theorem wp_mono (k : wp SC y d s pc lv st h Q) (hq : ∀ k v h', Q k v h' → Q' k v h') : wp SC y d s pc lv st h Q' := by
  obtain ⟨n, r, h1, h2, h3⟩ := k
  exact ⟨n, r, h1, h2, hq _ _ _ h3⟩
theorem wp_up {d' s' : Nat} (hd : d ≤ d') (hs : s ≤ s') (k : wp SC y d s pc lv st h Q) : wp SC y d' s' pc lv st h Q := by
  obtain ⟨n, r, h1, ⟨h2, h3, h4, h5⟩, h6⟩ := k
  exact ⟨n, r, h1, ⟨h2, by omega, by omega, by omega⟩, h6⟩
theorem wp_weak {lv' : List (Nat × Value)} (hs : re_sb lv' lv) (k : wp SC y d s pc lv' st h Q) : wp SC y d s pc lv st h Q := by
  obtain ⟨n, r, h1, h2⟩ := k
  exact ⟨n, r, re_more n n y pc _ _ st h r (Nat.le_refl _) hs h1, h2⟩
theorem re_sb_nil (lv : List (Nat × Value)) : re_sb [] lv := fun i v z => by cases z
theorem re_sb_at {i : Nat} {v : Value} {l lv : List (Nat × Value)} (h : re_lk lv i = some v) (hs : re_sb l lv) : re_sb ((i, v) :: l) lv := by
  intro j u hj
  rw [re_lk_cons] at hj
  split at hj
  next e => subst e; rw [h]; exact hj
  next => exact hs j u hj
theorem wp_step1 {pc' : Nat} {lv' : List (Nat × Value)} {st' : List Value} {h' : re_H} (e : ∀ n, re_go rG (rO SC) (n + 1) y pc lv st h = re_go rG (rO SC) n y pc' lv' st' h') (hh : h'.1 = h.1) (k : wp SC y d s pc' lv' st' h' Q) : wp SC y d s pc lv st h Q := by
  obtain ⟨n, r, h1, h2, h3⟩ := k
  refine ⟨n + 1, r, by rw [e, h1], ?_, h3⟩
  rw [← hh]
  exact h2
theorem wp_pure {pc' : Nat} {lv' : List (Nat × Value)} {st' : List Value} (hf : ft y pc ins) (hp : re_pure (fun _ _ _ => none) (re_nl rG y) pc lv st ins = some (pc', lv', st')) (k : wp SC y d s pc' lv' st' h Q) : wp SC y d s pc lv st h Q :=
  wp_step1 (fun n => by rw [re_go.eq_def]; simp only [hf.1, hf.2, show re_pure (rO SC).1 (re_nl rG y) pc lv st ins = some (pc', lv', st') from hp]) rfl k
/-- pure instructions, one behind another -/
def nb_run (y : Nat) : Nat → Nat → List (Nat × Value) → List Value → Option (Nat × List (Nat × Value) × List Value)
  | 0, pc, lv, st => some (pc, lv, st)
  | k + 1, pc, lv, st => match re_tw rG y pc with
    | some _ => none
    | none => match re_ins rG y pc with
      | none => none
      | some ins => match re_pure (fun _ _ _ => none) (re_nl rG y) pc lv st ins with
        | none => none
        | some q => nb_run y k q.1 q.2.1 q.2.2
theorem wp_run (k : Nat) {pc' : Nat} {lv' : List (Nat × Value)} {st' : List Value} (hp : nb_run y k pc lv st = some (pc', lv', st')) (K : wp SC y d s pc' lv' st' h Q) : wp SC y d s pc lv st h Q := by
  induction k generalizing pc lv st with
  | zero => cases hp; exact K
  | succ k ih =>
    unfold nb_run at hp
    split at hp
    next => cases hp
    next h1 =>
      split at hp
      next => cases hp
      next ins h2 =>
        split at hp
        next => cases hp
        next q h3 => exact wp_pure ⟨h1, h2⟩ (pc' := q.1) (lv' := q.2.1) (st' := q.2.2) h3 (ih hp)
theorem wp_gf {idx ci k a : Nat} {ty : FieldType} {fin : Nat} {vs : List Value} {v : Value} (hf : ft y pc (.getfield idx)) (hl : re_fl rG y idx = some (ci, k, ty, fin)) (hg : re_hg h a = some (ci, vs)) (hv : vs[k]? = some v) (K : wp SC y d s (pc + 3) lv (v :: st) h Q) : wp SC y d s pc lv (.ref a :: st) h Q :=
  wp_step1 (fun n => by rw [re_go.eq_def]; simp only [hf.1, hf.2, re_pure, re_hp, hl, hg, hv, if_true]) rfl K
theorem i32_in {i n : Nat} (h1 : i < n) (h2 : i < 2147483648) : re_in (i32 i) n = true ∧ (i32 i).toNatClampNeg = i := by
  have e : (i32 i).toInt = (i : Int) := by
    rw [Int32.toInt_ofNat_of_lt h2]
  have e2 : (i32 i).toNatClampNeg = i := by
    show (i32 i).toInt.toNat = i
    rw [e]; rfl
  refine ⟨?_, e2⟩
  unfold re_in
  rw [e2]
  have h3 : ¬ i32 i < 0 := by
    rw [Int32.lt_iff_toInt_lt, e]
    show ¬ (i : Int) < 0
    omega
  simp [h3, h1]
end WP
theorem test1 {SC : List Value} {d s : Nat} {h : re_H} {Q : Nat → Value → re_H → Prop} {a : Nat} {x i : Int32} (K : wp SC 135 d s 4 [(2, .int 0), (0, .ref a), (1, .int x)] [.ref a, .int 0] h Q) : wp SC 135 d s 0 [(0, .ref a), (1, .int x)] [] h Q :=
  wp_run 4 (pc' := 4) (lv' := [(2, .int 0), (0, .ref a), (1, .int x)]) (st' := [.ref a, .int 0]) rfl K
