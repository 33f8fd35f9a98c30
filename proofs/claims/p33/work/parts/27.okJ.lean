/-! The known member of the library: the tables are right. -/
def rckD (c idx : Nat) : Bool := match rJd c idx with
  | none => true
  | some (k, _) => match rJw c idx with
    | none => false
    | some ws => (!decide (k = 1) || (re_wat (ws.getD 0 0) (.methodLink (rCn c) idx Lib.MathLoose.min_long.x) && (re_wat (ws.getD 1 0) (.static Lib.MathLoose.min_long.x) && (re_wat (ws.getD 2 0) (.initialized "java/lang/Math") && re_wat (ws.getD 3 0) (.code Lib.MathLoose.min_long.x Lib.MathLoose.min_long.code 4 (some .long))))))
theorem rckD_all : (List.range 22).all (re_two rckD) = true := by decide +kernel
theorem rOkJ : re_okJ rN rG := by
  intro y idx k y' h
  have h : rJd (Nat.div y 64) idx = some (k, y') := h
  have hk : rckD (Nat.div y 64) idx = true := re_two_ok rckD_all (re_cond (by unfold rJd at h; exact h))
  unfold rckD at hk
  rw [h] at hk
  dsimp only at hk
  split at hk
  next => cases hk
  next ws hw =>
    rw [← re_cls_eq] at hk
    intro e
    subst e
    simp only [decide_true, Bool.not_true, Bool.false_or, Bool.and_eq_true] at hk
    exact ⟨re_wat_ok hk.1, re_wat_ok hk.2.1, re_wat_ok hk.2.2.1, re_wat_ok hk.2.2.2⟩
