/-! A walk by evaluation. An abstract heap is a list of cells (kind, values); a reference is its place in that list.
'ad' gives the address of each place. re_pure: what an instruction without heap does. -/
/-- what stands for what: addresses of outside references, ints and longs that nobody looks at; the script's length and ints -/
abbrev re_V : Type := (Nat → Nat) × (Nat → Int32) × (Nat → Int64) × Nat × (Nat → Int32)
/-- an abstract value, and the machine's: a reference by its place; .retAddr n an outside reference, .float n and .double n an int and a long that nobody looks at -/
def re_rv (V : re_V) (ad : List Nat) (v w : Value) : Prop := match v with
  | .ref i => ∃ a, ad[i]? = some a ∧ w = .ref a
  | .retAddr n => w = .ref (V.1 n)
  | .float n => w = .int (V.2.1 n.toNat)
  | .double n => w = .long (V.2.2.1 n.toNat)
  | v => w = v
def re_rs (V : re_V) (ad : List Nat) : List Value → List Value → Prop
  | [], [] => True
  | v :: vs, w :: ws => re_rv V ad v w ∧ re_rs V ad vs ws
  | _, _ => False
def re_rl (V : re_V) (ad : List Nat) : List (Nat × Value) → List (Nat × Value) → Prop
  | [], [] => True
  | v :: vs, w :: ws => (w.1 = v.1 ∧ re_rv V ad v.2 w.2) ∧ re_rl V ad vs ws
  | _, _ => False
section REV
variable {V : re_V}
theorem re_rs_nil {ad : List Nat} {ws : List Value} (h : re_rs V ad [] ws) : ws = [] := by
  cases ws with
  | nil => rfl
  | cons a l => exact absurd h id
theorem re_rs_cons {ad : List Nat} {v : Value} {vs ws : List Value} (h : re_rs V ad (v :: vs) ws) : ∃ w wr, ws = w :: wr ∧ re_rv V ad v w ∧ re_rs V ad vs wr := by
  cases ws with
  | nil => exact absurd h id
  | cons a l => exact ⟨a, l, rfl, h.1, h.2⟩
theorem re_rv_cat {ad : List Nat} {v w : Value} (h : re_rv V ad v w) : w.category = v.category := by
  cases v <;> simp only [re_rv] at h
  case ref i => obtain ⟨a, -, rfl⟩ := h; rfl
  all_goals (subst h; rfl)
def re_lk : List (Nat × Value) → Nat → Option Value
  | [], _ => none
  | q :: r, i => bif q.1 == i then some q.2 else re_lk r i
def re_s1 (lv : List (Nat × Value)) (i : Nat) (v : Value) : List (Nat × Value) := (i, v) :: lv.filter (fun q => !(q.1 == i) && !(q.1 + 1 == i && q.2.category == 2))
def re_s2 (lv : List (Nat × Value)) (i : Nat) (v : Value) : List (Nat × Value) := (i, v) :: lv.filter (fun q => !(q.1 == i) && (!(q.1 == i + 1) && !(q.1 + 1 == i && q.2.category == 2)))
theorem re_rl_lk {ad : List Nat} : ∀ {lv lc : List (Nat × Value)} {i : Nat} {v : Value}, re_rl V ad lv lc → re_lk lv i = some v → ∃ (k : Nat) (w : Value), lc[k]? = some (i, w) ∧ re_rv V ad v w
  | [], lc, i, v, _, h => by cases h
  | q :: r, [], i, v, h, _ => absurd h id
  | q :: r, d :: dr, i, v, h, h2 => by
    unfold re_lk at h2
    cases hq : q.1 == i with
    | true =>
      rw [hq] at h2
      cases h2
      refine ⟨0, d.2, ?_, h.1.2⟩
      have e1 : d.1 = i := h.1.1.trans (by simpa using hq)
      show some d = some (i, d.2)
      rw [← e1]
    | false =>
      rw [hq] at h2
      obtain ⟨k, w, h3, h4⟩ := re_rl_lk h.2 h2
      exact ⟨k + 1, w, h3, h4⟩
theorem re_rl_filter {ad : List Nat} (f : Nat × Value → Bool) (hf : ∀ q d : Nat × Value, d.1 = q.1 → d.2.category = q.2.category → f d = f q) : ∀ {lv lc : List (Nat × Value)}, re_rl V ad lv lc → re_rl V ad (lv.filter f) (lc.filter f)
  | [], [], _ => trivial
  | [], d :: dr, h => absurd h id
  | q :: r, [], h => absurd h id
  | q :: r, d :: dr, h => by
    have e := hf q d h.1.1 (re_rv_cat h.1.2)
    have ih := re_rl_filter f hf h.2
    rw [List.filter_cons, List.filter_cons, e]
    cases f q with
    | true => exact ⟨h.1, ih⟩
    | false => exact ih
theorem re_rl_s1 {ad : List Nat} {lv lc : List (Nat × Value)} {v w : Value} (i : Nat) (h : re_rl V ad lv lc) (hv : re_rv V ad v w) : re_rl V ad (re_s1 lv i v) (re_s1 lc i w) :=
  ⟨⟨rfl, hv⟩, re_rl_filter _ (fun q d h1 h2 => by simp only [h1, h2]) h⟩
theorem re_rl_s2 {ad : List Nat} {lv lc : List (Nat × Value)} {v w : Value} (i : Nat) (h : re_rl V ad lv lc) (hv : re_rv V ad v w) : re_rl V ad (re_s2 lv i v) (re_s2 lc i w) :=
  ⟨⟨rfl, hv⟩, re_rl_filter _ (fun q d h1 h2 => by simp only [h1, h2]) h⟩
def re_jmp (pc : Nat) (off : Int) : Option Nat := match (pc : Int) + off with
  | .ofNat t => some t
  | .negSucc _ => none
theorem re_jmp_ok {pc t : Nat} {off : Int} (h : re_jmp pc off = some t) : (pc : Int) + off = (t : Int) := by
  unfold re_jmp at h
  split at h
  next n e => cases h; exact e
  next => cases h
def re_icond (c : Jvm.ClassFile.Cond) (x y : Int32) : Bool := match c with
  | .eq => decide (x = y)
  | .ne => decide (¬ x = y)
  | .lt => decide (x < y)
  | .ge => decide (y ≤ x)
  | .gt => decide (y < x)
  | .le => decide (x ≤ y)
end REV
