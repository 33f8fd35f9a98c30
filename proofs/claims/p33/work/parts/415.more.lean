/-! What the rows of the blocks are told in. -/
/-- a field's value; a place's value in an array -/
def nb_fd (h : re_H) (a ci k : Nat) (v : Value) : Prop := ∃ vs, re_hg h a = some (ci, vs) ∧ vs[k]? = some v
def nb_ar (h : re_H) (a t : Nat) (x : Int32) (v : Value) : Prop := ∃ (vs : List Value) (i : Nat), re_hg h a = some (t, vs) ∧ x = i32 i ∧ i < 2147483648 ∧ vs[i]? = some v
theorem vc_i (x : Int32) : (Value.int x).category = 1 := rfl
theorem vc_l (x : Int64) : (Value.long x).category = 2 := rfl
theorem vc_r (x : Nat) : (Value.ref x).category = 1 := rfl
theorem vc_n : (Value.null).category = 1 := rfl
theorem vc_a (x : Nat) : (Value.retAddr x).category = 1 := rfl
theorem re_R_cat {v : Value} (h : re_R v) : v.category = 1 := by rcases h with rfl | ⟨a, rfl⟩ <;> rfl
theorem fit_z {x : Int32} (h : x = 0 ∨ x = 1) : re_fit .boolean (.int x) = true := by rcases h with rfl | rfl <;> decide
theorem i32_nlt {x z : Int32} : (z ≤ x) ↔ ¬ x < z := by
  rw [Int32.le_iff_toInt_le, Int32.lt_iff_toInt_lt]
  omega
section IC
variable {x z : Int32}
theorem ic1_eq (h : re_icond .eq x z = true) : x = z := of_decide_eq_true h
theorem ic0_eq (h : re_icond .eq x z = false) : ¬ x = z := of_decide_eq_false h
theorem ic1_ne (h : re_icond .ne x z = true) : ¬ x = z := of_decide_eq_true h
theorem ic0_ne (h : re_icond .ne x z = false) : x = z := Classical.not_not.mp (of_decide_eq_false h)
theorem ic1_lt (h : re_icond .lt x z = true) : x < z := of_decide_eq_true h
theorem ic0_lt (h : re_icond .lt x z = false) : ¬ x < z := of_decide_eq_false h
theorem ic1_ge (h : re_icond .ge x z = true) : ¬ x < z := i32_nlt.mp (of_decide_eq_true h)
theorem ic0_ge (h : re_icond .ge x z = false) : x < z := Classical.not_not.mp (fun q => of_decide_eq_false h (i32_nlt.mpr q))
theorem ic1_gt (h : re_icond .gt x z = true) : z < x := of_decide_eq_true h
theorem ic0_gt (h : re_icond .gt x z = false) : ¬ z < x := of_decide_eq_false h
theorem ic1_le (h : re_icond .le x z = true) : ¬ z < x := i32_nlt.mp (of_decide_eq_true h)
theorem ic0_le (h : re_icond .le x z = false) : z < x := Classical.not_not.mp (fun q => of_decide_eq_false h (i32_nlt.mpr q))
end IC
section LC
variable {a b : Int64}
theorem lc_cases : (a < b ∧ lg_cmp a b = -1) ∨ (a = b ∧ lg_cmp a b = 0) ∨ (b < a ∧ lg_cmp a b = 1) := by
  unfold lg_cmp
  rcases Int.lt_trichotomy a.toInt b.toInt with h | h | h
  · left
    have h1 : ¬ a > b := by rw [gt_iff_lt, Int64.lt_iff_toInt_lt]; omega
    have h2 : ¬ a = b := fun e => by subst e; omega
    exact ⟨Int64.lt_iff_toInt_lt.mpr h, by rw [if_neg h1, if_neg h2]⟩
  · right; left
    have e : a = b := Int64.toInt_inj.mp h
    subst e
    have h1 : ¬ a > a := by rw [gt_iff_lt, Int64.lt_iff_toInt_lt]; omega
    exact ⟨rfl, by rw [if_neg h1, if_pos rfl]⟩
  · right; right
    have h1 : a > b := by rw [gt_iff_lt, Int64.lt_iff_toInt_lt]; omega
    exact ⟨h1, by rw [if_pos h1]⟩
theorem lc_irr : ¬ a < a := by rw [Int64.lt_iff_toInt_lt]; omega
theorem lc_asy (h : a < b) : ¬ b < a := by rw [Int64.lt_iff_toInt_lt] at h ⊢; omega
theorem lc_ne (h : a < b) : ¬ a = b := fun e => by subst e; exact lc_irr h
theorem lc1_eq (h : re_icond .eq (lg_cmp a b) 0 = true) : a = b := by
  rcases lc_cases (a := a) (b := b) with ⟨h1, h2⟩ | ⟨h1, h2⟩ | ⟨h1, h2⟩ <;> rw [h2] at h
  · exact absurd h (by decide)
  · exact h1
  · exact absurd h (by decide)
theorem lc0_eq (h : re_icond .eq (lg_cmp a b) 0 = false) : ¬ a = b := by
  rcases lc_cases (a := a) (b := b) with ⟨h1, h2⟩ | ⟨h1, h2⟩ | ⟨h1, h2⟩ <;> rw [h2] at h
  · exact lc_ne h1
  · exact absurd h (by decide)
  · exact fun e => lc_ne h1 e.symm
theorem lc1_ne (h : re_icond .ne (lg_cmp a b) 0 = true) : ¬ a = b := by
  rcases lc_cases (a := a) (b := b) with ⟨h1, h2⟩ | ⟨h1, h2⟩ | ⟨h1, h2⟩ <;> rw [h2] at h
  · exact lc_ne h1
  · exact absurd h (by decide)
  · exact fun e => lc_ne h1 e.symm
theorem lc0_ne (h : re_icond .ne (lg_cmp a b) 0 = false) : a = b := by
  rcases lc_cases (a := a) (b := b) with ⟨h1, h2⟩ | ⟨h1, h2⟩ | ⟨h1, h2⟩ <;> rw [h2] at h
  · exact absurd h (by decide)
  · exact h1
  · exact absurd h (by decide)
theorem lc1_lt (h : re_icond .lt (lg_cmp a b) 0 = true) : a < b := by
  rcases lc_cases (a := a) (b := b) with ⟨h1, h2⟩ | ⟨h1, h2⟩ | ⟨h1, h2⟩ <;> rw [h2] at h
  · exact h1
  · exact absurd h (by decide)
  · exact absurd h (by decide)
theorem lc0_lt (h : re_icond .lt (lg_cmp a b) 0 = false) : ¬ a < b := by
  rcases lc_cases (a := a) (b := b) with ⟨h1, h2⟩ | ⟨h1, h2⟩ | ⟨h1, h2⟩ <;> rw [h2] at h
  · exact absurd h (by decide)
  · subst h1; exact lc_irr
  · exact lc_asy h1
theorem lc1_ge (h : re_icond .ge (lg_cmp a b) 0 = true) : ¬ a < b := by
  rcases lc_cases (a := a) (b := b) with ⟨h1, h2⟩ | ⟨h1, h2⟩ | ⟨h1, h2⟩ <;> rw [h2] at h
  · exact absurd h (by decide)
  · subst h1; exact lc_irr
  · exact lc_asy h1
theorem lc0_ge (h : re_icond .ge (lg_cmp a b) 0 = false) : a < b := by
  rcases lc_cases (a := a) (b := b) with ⟨h1, h2⟩ | ⟨h1, h2⟩ | ⟨h1, h2⟩ <;> rw [h2] at h
  · exact h1
  · exact absurd h (by decide)
  · exact absurd h (by decide)
theorem lc1_gt (h : re_icond .gt (lg_cmp a b) 0 = true) : b < a := by
  rcases lc_cases (a := a) (b := b) with ⟨h1, h2⟩ | ⟨h1, h2⟩ | ⟨h1, h2⟩ <;> rw [h2] at h
  · exact absurd h (by decide)
  · exact absurd h (by decide)
  · exact h1
theorem lc0_gt (h : re_icond .gt (lg_cmp a b) 0 = false) : ¬ b < a := by
  rcases lc_cases (a := a) (b := b) with ⟨h1, h2⟩ | ⟨h1, h2⟩ | ⟨h1, h2⟩ <;> rw [h2] at h
  · exact lc_asy h1
  · subst h1; exact lc_irr
  · exact absurd h (by decide)
theorem lc1_le (h : re_icond .le (lg_cmp a b) 0 = true) : ¬ b < a := by
  rcases lc_cases (a := a) (b := b) with ⟨h1, h2⟩ | ⟨h1, h2⟩ | ⟨h1, h2⟩ <;> rw [h2] at h
  · exact lc_asy h1
  · subst h1; exact lc_irr
  · exact absurd h (by decide)
theorem lc0_le (h : re_icond .le (lg_cmp a b) 0 = false) : b < a := by
  rcases lc_cases (a := a) (b := b) with ⟨h1, h2⟩ | ⟨h1, h2⟩ | ⟨h1, h2⟩ <;> rw [h2] at h
  · exact absurd h (by decide)
  · exact absurd h (by decide)
  · exact h1
end LC
section WQ
variable {SC : List Value} {y d s pc : Nat} {lv : List (Nat × Value)} {st : List Value} {h : re_H} {Q : Nat → Value → re_H → Prop}
theorem wp_ret_weak {lv' : List (Nat × Value)} {k : Nat} {v : Value} {h' : re_H} (hs : re_sb lv' lv) (z : wp_ret SC y d s pc lv' st Q k v h') : wp_ret SC y d s pc lv st Q k v h' := by
  unfold wp_ret at z ⊢
  split
  next e => rw [if_pos e] at z; exact wp_weak hs z
  next e => rw [if_neg e] at z; exact z
theorem wp_bi {n : Int} {x : Int32} (hf : ft y pc (.bipush n)) (hx : (Int8.ofInt n).toInt32 = x) (K : wp SC y d s (pc + 2) lv (.int x :: st) h Q) : wp SC y d s pc lv st h Q := by
  subst hx
  exact wp_pure hf rfl K
theorem wp_si {n : Int} {x : Int32} (hf : ft y pc (.sipush n)) (hx : (Int16.ofInt n).toInt32 = x) (K : wp SC y d s (pc + 3) lv (.int x :: st) h Q) : wp SC y d s pc lv st h Q := by
  subst hx
  exact wp_pure hf rfl K
theorem wp_stI {k pc' : Nat} {x : Int32} {lv' : List (Nat × Value)} {ins : Instr} (hf : ft y pc ins) (hi : (∃ i, ins = .istore i ∧ i = k ∧ pc' = pc + 2) ∨ (∃ i, ins = .istore_n i ∧ (i : Nat) = k ∧ pc' = pc + 1)) (hn : k < re_nl rG y) (hlv : re_s1 lv k (.int x) = lv') (K : wp SC y d s pc' lv' st h Q) : wp SC y d s pc lv (.int x :: st) h Q := by
  subst hlv
  rcases hi with ⟨i, rfl, rfl, rfl⟩ | ⟨i, rfl, rfl, rfl⟩ <;> exact wp_pure hf (by simp only [re_pure, hn, if_true]) K
theorem wp_stL {k pc' : Nat} {x : Int64} {lv' : List (Nat × Value)} {ins : Instr} (hf : ft y pc ins) (hi : (∃ i, ins = .lstore i ∧ i = k ∧ pc' = pc + 2) ∨ (∃ i, ins = .lstore_n i ∧ (i : Nat) = k ∧ pc' = pc + 1)) (hn : k + 1 < re_nl rG y) (hlv : re_s2 lv k (.long x) = lv') (K : wp SC y d s pc' lv' st h Q) : wp SC y d s pc lv (.long x :: st) h Q := by
  subst hlv
  rcases hi with ⟨i, rfl, rfl, rfl⟩ | ⟨i, rfl, rfl, rfl⟩ <;> exact wp_pure hf (by simp only [re_pure, hn, if_true]) K
theorem wp_incR {k : Nat} {n : Int} {x : Int32} {lv' : List (Nat × Value)} (hf : ft y pc (.iinc k n)) (hl : re_lk lv k = some (.int x)) (hn : k < re_nl rG y) (hlv : re_s1 lv k (.int (x + Int32.ofInt n)) = lv') (K : wp SC y d s (pc + 3) lv' st h Q) : wp SC y d s pc lv st h Q := by
  subst hlv
  exact wp_pure hf (by simp only [re_pure, hl, hn, if_true]) K
end WQ
