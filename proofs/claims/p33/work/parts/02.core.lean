/-! A walk by evaluation. An abstract heap is a list of cells (kind, values); a reference is its place in that list.
'ad' gives the address of each place. re_pure: what an instruction without heap does. -/
/-- what stands for what: addresses of outside references, ints and longs that nobody looks at; the script's length and ints -/
abbrev re_V : Type := (Nat → Nat) × (Nat → Int32) × (Nat → Int64) × Nat × (Nat → Int32)
/-- an abstract value, and the machine's: a reference by its place; .retAddr n an outside reference, .float n and .double n an int and a long that nobody looks at -/
def re_rv (V : re_V) (ad : List Nat) (v w : Value) : Prop := match v with
  | .ref i => ∃ a, ad[i]? = some a ∧ w = .ref a
  | .retAddr n => w = .ref (V.1 n)
  | .float n => w = .int (V.2.1 n.toNat)
  | .double n => w = .long (V.2.2.1 n.toNat)
  | v => w = v
def re_rs (V : re_V) (ad : List Nat) : List Value → List Value → Prop
  | [], [] => True
  | v :: vs, w :: ws => re_rv V ad v w ∧ re_rs V ad vs ws
  | _, _ => False
section REV
variable {V : re_V}
theorem re_rs_nil {ad : List Nat} {ws : List Value} (h : re_rs V ad [] ws) : ws = [] := by
  cases ws with
  | nil => rfl
  | cons a l => exact absurd h id
theorem re_rs_cons {ad : List Nat} {v : Value} {vs ws : List Value} (h : re_rs V ad (v :: vs) ws) : ∃ w wr, ws = w :: wr ∧ re_rv V ad v w ∧ re_rs V ad vs wr := by
  cases ws with
  | nil => exact absurd h id
  | cons a l => exact ⟨a, l, rfl, h.1, h.2⟩
theorem re_rv_cat {ad : List Nat} {v w : Value} (h : re_rv V ad v w) : w.category = v.category := by
  cases v <;> simp only [re_rv] at h
  case ref i => obtain ⟨a, -, rfl⟩ := h; rfl
  all_goals (subst h; rfl)
def re_lk : List (Nat × Value) → Nat → Option Value
  | [], _ => none
  | q :: r, i => bif q.1 == i then some q.2 else re_lk r i
/-- what a local's slot holds is of two slots -/
def re_c2 (lv : List (Nat × Value)) (j : Nat) : Bool := match re_lk lv j with
  | some u => u.category == 2
  | none => false
def re_s1 (lv : List (Nat × Value)) (i : Nat) (v : Value) : List (Nat × Value) := (i, v) :: lv.filter (fun q => !(q.1 == i) && !(q.1 + 1 == i && re_c2 lv q.1))
def re_s2 (lv : List (Nat × Value)) (i : Nat) (v : Value) : List (Nat × Value) := (i, v) :: lv.filter (fun q => !(q.1 == i) && (!(q.1 == i + 1) && !(q.1 + 1 == i && re_c2 lv q.1)))
/-- each abstract local is told by the machine's -/
def re_rl (V : re_V) (ad : List Nat) (lv lc : List (Nat × Value)) : Prop := ∀ (i : Nat) (v : Value), re_lk lv i = some v → ∃ (k : Nat) (w : Value), lc[k]? = some (i, w) ∧ re_rv V ad v w
theorem re_rl_lk {ad : List Nat} {lv lc : List (Nat × Value)} {i : Nat} {v : Value} (h : re_rl V ad lv lc) (h2 : re_lk lv i = some v) : ∃ (k : Nat) (w : Value), lc[k]? = some (i, w) ∧ re_rv V ad v w := h i v h2
theorem re_lk_cons (i j : Nat) (v : Value) (lv : List (Nat × Value)) : re_lk ((i, v) :: lv) j = if i = j then some v else re_lk lv j := by
  show (bif i == j then some v else re_lk lv j) = _
  rcases Nat.decEq i j with h | h
  · rw [beq_false_of_ne h, if_neg h]; rfl
  · subst h; rw [beq_self_eq_true, if_pos rfl]; rfl
theorem re_lk_filter (p : Nat → Bool) (j : Nat) : ∀ lv : List (Nat × Value), re_lk (lv.filter (fun q => p q.1)) j = if p j = true then re_lk lv j else none
  | [] => by
    show none = _
    cases p j <;> rfl
  | q :: r => by
    have ih := re_lk_filter p j r
    obtain ⟨a, v⟩ := q
    rw [List.filter_cons, re_lk_cons]
    rcases Nat.decEq a j with h | h
    · rw [if_neg h]
      cases hp : p a with
      | true => show re_lk ((a, v) :: _) j = _; rw [re_lk_cons, if_neg h, ih]
      | false => exact ih
    · subst h
      rw [if_pos rfl]
      cases hp : p a with
      | true => show re_lk ((a, v) :: _) a = _; rw [re_lk_cons, if_pos rfl]; rfl
      | false => show re_lk (r.filter (fun q => p q.1)) a = none; rw [ih, hp]; rfl
theorem re_get_filter (f : Nat × Value → Bool) {lc : List (Nat × Value)} {k : Nat} {x : Nat × Value} (h : lc[k]? = some x) (hf : f x = true) : ∃ k' : Nat, (lc.filter f)[k']? = some x :=
  List.getElem?_of_mem (List.mem_filter.mpr ⟨List.mem_of_getElem? h, hf⟩)
theorem re_rl_filter {ad : List Nat} (p : Nat → Bool) (f : Nat × Value → Bool) {lv lc : List (Nat × Value)} (hf : ∀ (j : Nat) (u w : Value), re_lk lv j = some u → w.category = u.category → p j = true → f (j, w) = true) (h : re_rl V ad lv lc) : re_rl V ad (lv.filter (fun q => p q.1)) (lc.filter f) := by
  intro j u hj
  rw [re_lk_filter] at hj
  split at hj
  next hp =>
    obtain ⟨k, w, h1, h2⟩ := h j u hj
    obtain ⟨k', h3⟩ := re_get_filter f h1 (hf j u w hj (re_rv_cat h2) hp)
    exact ⟨k', w, h3, h2⟩
  next => cases hj
theorem re_c2_some {lv : List (Nat × Value)} {j : Nat} {u : Value} (h : re_lk lv j = some u) : re_c2 lv j = (u.category == 2) := by
  unfold re_c2
  rw [h]
theorem re_rl_cons {ad : List Nat} {lv lc : List (Nat × Value)} {v w : Value} (i : Nat) (hv : re_rv V ad v w) (h : re_rl V ad lv lc) : re_rl V ad ((i, v) :: lv) ((i, w) :: lc) := by
  intro j u hj
  rw [re_lk_cons] at hj
  split at hj
  next e => subst e; cases hj; exact ⟨0, w, rfl, hv⟩
  next e =>
    obtain ⟨k, w', h1, h2⟩ := h j u hj
    exact ⟨k + 1, w', h1, h2⟩
theorem re_rl_s1 {ad : List Nat} {lv lc : List (Nat × Value)} {v w : Value} (i : Nat) (h : re_rl V ad lv lc) (hv : re_rv V ad v w) : re_rl V ad (re_s1 lv i v) ((i, w) :: lc.filter (fun q => !(q.1 == i) && !(q.1 + 1 == i && q.2.category == 2))) :=
  re_rl_cons i hv (re_rl_filter (fun j => !(j == i) && !(j + 1 == i && re_c2 lv j)) _ (fun j u w' h1 h2 h3 => by
    dsimp only at h3 ⊢
    rw [h2, ← re_c2_some h1]
    exact h3) h)
theorem re_rl_s2 {ad : List Nat} {lv lc : List (Nat × Value)} {v w : Value} (i : Nat) (h : re_rl V ad lv lc) (hv : re_rv V ad v w) : re_rl V ad (re_s2 lv i v) ((i, w) :: lc.filter (fun q => !(q.1 == i) && (!(q.1 == i + 1) && !(q.1 + 1 == i && q.2.category == 2)))) :=
  re_rl_cons i hv (re_rl_filter (fun j => !(j == i) && (!(j == i + 1) && !(j + 1 == i && re_c2 lv j))) _ (fun j u w' h1 h2 h3 => by
    dsimp only at h3 ⊢
    rw [h2, ← re_c2_some h1]
    exact h3) h)
def re_jmp (pc : Nat) (off : Int) : Option Nat := match (pc : Int) + off with
  | .ofNat t => some t
  | .negSucc _ => none
theorem re_jmp_ok {pc t : Nat} {off : Int} (h : re_jmp pc off = some t) : (pc : Int) + off = (t : Int) := by
  unfold re_jmp at h
  split at h
  next n e => cases h; exact e
  next => cases h
def re_icond (c : Jvm.ClassFile.Cond) (x y : Int32) : Bool := match c with
  | .eq => decide (x = y)
  | .ne => decide (¬ x = y)
  | .lt => decide (x < y)
  | .ge => decide (y ≤ x)
  | .gt => decide (y < x)
  | .le => decide (x ≤ y)
end REV
