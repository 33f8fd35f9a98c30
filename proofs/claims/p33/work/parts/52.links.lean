/-! Links. -/
def lsz (j : Nat) : Nat := if j ≤ 2 then 16 else 12
def lkr (h : re_H) (l v : Nat) (F : Nat → Nat → Int32) : Prop := re_hg h l = some (3, [.ref v, .ref (l + 1), .ref (l + 2), .ref (l + 3), .ref (l + 4), .ref (l + 5), .ref (l + 6)]) ∧ ∀ j, 1 ≤ j → j ≤ 6 → re_hg h (l + j) = some (100, lst (lsz j) (fun i => .int (F j i)))
def inL (l a : Nat) : Prop := l ≤ a ∧ a ≤ l + 6
def fup (F : Nat → Nat → Int32) (j i : Nat) (x : Int32) : Nat → Nat → Int32 := fun j' i' => if j' = j ∧ i' = i then x else F j' i'
theorem lkr_w {h : re_H} {l v : Nat} {F : Nat → Nat → Int32} (c : lkr h l v F) {j : Nat} (h1 : 1 ≤ j) (h6 : j ≤ 6) (i : Nat) (x : Int32) : lkr (re_hw h (l + j) (100, (lst (lsz j) (fun i => .int (F j i))).set i (.int x))) l v (fup F j i x) ∧ mo (inL l) 0 h (re_hw h (l + j) (100, (lst (lsz j) (fun i => .int (F j i))).set i (.int x))) := by
  refine ⟨⟨by rw [hw_n (by omega)]; exact c.1, fun j' g1 g6 => ?_⟩, mo_hw (c.2 j h1 h6) (by omega) ⟨by omega, by omega⟩⟩
  rcases Nat.decEq j' j with hne | rfl
  · rw [hw_n (by omega), c.2 j' g1 g6]
    rw [show lst (lsz j') (fun i_1 => .int (fup F j i x j' i_1)) = lst (lsz j') (fun i => .int (F j' i)) from lst_ext (fun k _ => by unfold fup; rw [if_neg (fun y => hne y.1)])]
  · rw [hw_s (hg_lt (c.2 j' h1 h6)), lst_set]
    rw [show lst (lsz j') (fun k => if k = i then .int x else .int (F j' k)) = lst (lsz j') (fun k => .int (fup F j' i x j' k)) from lst_ext (fun k _ => by unfold fup; by_cases hk : k = i <;> simp [hk])]
theorem lkr_at {h : re_H} {l v : Nat} {F : Nat → Nat → Int32} (c : lkr h l v F) {j i : Nat} {x : Int32} (h1 : 1 ≤ j) (h6 : j ≤ 6) (hx : x = i32 i) (hi : i < lsz j) : nb_ar h (l + j) 100 x (.int (F j i)) :=
  ⟨_, i, c.2 j h1 h6, hx, by unfold lsz at hi; split at hi <;> omega, lst_get _ hi⟩
theorem lkr_mo {S : Nat → Prop} {n : Nat} {h h' : re_H} {l v : Nat} {F : Nat → Nat → Int32} (m : mo S n h h') (hs : ∀ a, inL l a → ¬ S a) (c : lkr h l v F) : lkr h' l v F :=
  ⟨mo_g m (hs _ ⟨by omega, by omega⟩) c.1, fun j h1 h6 => mo_g m (hs _ ⟨by omega, by omega⟩) (c.2 j h1 h6)⟩
def dfm (V : Vr) (n : Nat) : Nat → Nat
  | 0 => 0
  | k + 1 => dfm V n k ||| (if (dfd (V k).2).testBit n then 2 ^ k else 0)
theorem dfm_s (V : Vr) (n k : Nat) : dfm V n (k + 1) = dfm V n k ||| (if (dfd (V k).2).testBit n then 2 ^ k else 0) := rfl
def cnt (n : Nat) (C : Cd) : Nat := (C.filter (fun q => q.1 == n)).length
def ow (V : Vr) (n : Nat) : Nat → Option Nat
  | 0 => none
  | k + 1 => if cnt n (V k).2 = 0 then ow V n k else if cnt n (V k).2 = 1 ∧ dfm V n k = 0 then some k else none
def dim (V : Vr) (c : Nat) : Nat → Nat
  | 0 => 0
  | k + 1 => dim V c k ||| (if (rds (V c).2).testBit k then dfm V k 12 else 0)
def wst (o : Nat) (ne : Nat → Nat) : Nat → Nat := fun c => if (ne c).testBit o then ne c ||| ne o else ne c
def wn (V : Vr) : Nat → Nat → Nat
  | 0 => fun c => dim V c 16
  | k + 1 => wst k (wn V k)
def bex (p : Nat → Bool) : Nat → Bool
  | 0 => false
  | k + 1 => bex p k || p k
theorem bex_up {p : Nat → Bool} {k m : Nat} (h : bex p k = true) (hk : k ≤ m) : bex p m = true := by
  induction m with
  | zero => cases (show k = 0 by omega); exact h
  | succ m ih =>
    rcases Nat.lt_or_ge k (m + 1) with g | g
    · unfold bex
      rw [ih (by omega)]
      rfl
    · cases (show k = m + 1 by omega)
      exact h
theorem bex_iff {p : Nat → Bool} {k : Nat} : bex p k = true ↔ ∃ i, i < k ∧ p i = true := by
  induction k with
  | zero => exact ⟨fun z => by (cases z), fun ⟨i, h, _⟩ => absurd h (Nat.not_lt_zero i)⟩
  | succ k ih =>
    unfold bex
    rw [Bool.or_eq_true, ih]
    constructor
    · rintro (⟨i, h1, h2⟩ | h)
      · exact ⟨i, by omega, h2⟩
      · exact ⟨k, by omega, h⟩
    · rintro ⟨i, h1, h2⟩
      rcases Nat.lt_or_ge i k with g | g
      · exact Or.inl ⟨i, g, h2⟩
      · cases (show i = k by omega)
        exact Or.inr h2
def wrA (V : Vr) (c n : Nat) : Bool := (dfd (V c).2).testBit n && !decide (ow V n 12 = some c)
def wrB (V : Vr) (c n : Nat) : Bool := (rds (V c).2).testBit n && decide (dfm V n 12 = 0)
def wr (V : Vr) (c : Nat) : Nat := if bex (wrA V c) 16 then 1 else if (wn V 12 c).testBit c then 2 else if bex (wrB V c) 16 then 3 else 0
/-- what the links tell -/
def lkF (V : Vr) (j i : Nat) : Int32 := if j = 1 then i32 (dfm V i 12) else if j = 2 then oI (ow V i 12) else if j = 3 then i32 (rds (V i).2) else if j = 4 then i32 (dim V i 16) else if j = 5 then i32 (wn V 12 i) else i32 (wr V i)
/-- some cell has code: until then what the row of owners holds is not told -/
def nte (V : Vr) : Prop := ∃ c, c < 12 ∧ ¬ (V c).2 = []
theorem rds_ne {C : Cd} {n : Nat} (h : (rds C).testBit n = true) : ¬ C = [] := fun e => by
  subst e
  rw [show rds [] = 0 from rfl, Nat.zero_testBit] at h
  cases h
def lk (h : re_H) (l v : Nat) (V : Vr) : Prop := ∃ F, lkr h l v F ∧ ∀ j i, 1 ≤ j → j ≤ 6 → i < lsz j → (j = 2 → nte V) → F j i = lkF V j i
theorem dfd_bit {C : Cd} (n : Nat) : (dfd C).testBit n = decide (¬ cnt n C = 0) := by
  have : ∀ (C : Cd) (m : Nat), (C.foldl (fun m q => m ||| 2 ^ q.1) m).testBit n = (m.testBit n || decide (¬ cnt n C = 0)) := by
    intro C
    induction C with
    | nil => intro m; simp [cnt]
    | cons q r ih =>
      intro m
      rw [List.foldl_cons, ih, Nat.testBit_or, Nat.testBit_two_pow]
      by_cases hq : q.1 = n
      · have h1 : ¬ cnt n (q :: r) = 0 := by unfold cnt; rw [List.filter_cons, if_pos (by simpa using hq)]; simp
        rw [decide_eq_true hq, decide_eq_true h1]
        simp
      · have h1 : cnt n (q :: r) = cnt n r := by unfold cnt; rw [List.filter_cons, if_neg (by simpa using hq)]
        rw [decide_eq_false hq, h1]
        simp
  unfold dfd
  rw [this]
  simp
theorem cnt_app (n : Nat) (C : Cd) (q : Nat × Tr) : cnt n (C ++ [q]) = cnt n C + if q.1 = n then 1 else 0 := by
  unfold cnt
  rw [List.filter_append, List.length_append]
  by_cases h : q.1 = n
  · rw [if_pos h, List.filter_cons, if_pos (by simpa using h)]; simp
  · rw [if_neg h, List.filter_cons, if_neg (by simpa using h)]; simp
theorem dfm_lt (V : Vr) (n : Nat) : ∀ k, dfm V n k < 2 ^ k
  | 0 => by show 0 < 2 ^ 0; decide
  | k + 1 => by
    unfold dfm
    refine Nat.or_lt_two_pow (Nat.lt_of_lt_of_le (dfm_lt V n k) (Nat.pow_le_pow_right (by omega) (by omega))) ?_
    split
    · exact Nat.pow_lt_pow_right (by omega) (by omega)
    · exact Nat.two_pow_pos _
theorem ow_lt {V : Vr} {n : Nat} : ∀ {k c : Nat}, ow V n k = some c → c < k
  | 0, c, h => by cases h
  | k + 1, c, h => by
    unfold ow at h
    split at h
    · have := ow_lt h; omega
    · split at h
      · cases h; omega
      · cases h
theorem rds_lt {h : re_H} {p : Nat} {C : Cd} (c : cd h p C) : rds C < 2 ^ 16 := by
  obtain ⟨ns, es, -, -, -, c4⟩ := c
  have hm : ∀ q ∈ C, fre q.2 < 2 ^ 16 := fun q hq => by
    obtain ⟨i, hi⟩ := List.getElem?_of_mem hq
    obtain ⟨-, -, b, -, g4, -⟩ := c4.2 i q.1 q.2 hi
    exact (fre_lt g4).1
  have : ∀ (C : Cd) (m : Nat × Nat), (∀ q ∈ C, fre q.2 < 2 ^ 16) → m.1 < 2 ^ 16 → (C.foldl (fun (m : Nat × Nat) q => (m.1 ||| nb_wo (fre q.2) m.2, m.2 ||| 2 ^ q.1)) m).1 < 2 ^ 16 := by
    intro C
    induction C with
    | nil => exact fun m _ h => h
    | cons q r ih => exact fun m hq h => ih _ (fun q' h' => hq q' (List.mem_cons_of_mem _ h')) (Nat.or_lt_two_pow h (wo_lt (hq q List.mem_cons_self)))
  exact this C (0, 0) hm (by decide)
theorem dim_lt (V : Vr) (c : Nat) : ∀ k, dim V c k < 2 ^ 12
  | 0 => by show 0 < 2 ^ 12; decide
  | k + 1 => by
    unfold dim
    refine Nat.or_lt_two_pow (dim_lt V c k) ?_
    split
    · exact dfm_lt V k 12
    · decide
theorem wn_lt (V : Vr) : ∀ k c, wn V k c < 2 ^ 12
  | 0, c => dim_lt V c 16
  | k + 1, c => by
    unfold wn wst
    split
    · exact Nat.or_lt_two_pow (wn_lt V k c) (wn_lt V k k)
    · exact wn_lt V k c
theorem oI_eq {o : Option Nat} {c : Nat} (ho : ∀ i, o = some i → i < 2147483648) (hc : c < 2147483648) : oI o = i32 c ↔ o = some c := by
  cases o with
  | none => exact ⟨fun g => absurd ((oI_neg (o := none) ho).mpr rfl) (by rw [g]; exact i3_neg hc), fun g => by cases g⟩
  | some i => exact ⟨fun g => by rw [(i3_eq (ho i rfl) hc).mp g], fun g => by cases g; rfl⟩
