/-! The known members of the library: the tables are right. -/
theorem re_imp {k j : Nat} {X : Bool} (h : (!decide (k = j) || X) = true) (e : k = j) : X = true := by
  subst e
  simpa using h
def rckD (c idx : Nat) : Bool := match rJd c idx with
  | none => true
  | some (k, y') => match rJw c idx with
    | none => false
    | some ws => (!decide (k = 0) || re_wat (ws.getD 0 0) (.fieldLink (rCn c) idx re_al "DEFAULTCAPACITY_EMPTY_ELEMENTDATA" re_ao)) &&
      ((!decide (k = 1) || (re_wat (ws.getD 0 0) (.methodLink (rCn c) idx Lib.Math.max.name) && (re_wat (ws.getD 1 0) (.static Lib.Math.max.name) && (re_wat (ws.getD 2 0) (.initialized "java/lang/Math") && re_wat (ws.getD 3 0) (.code Lib.Math.max.name Lib.Math.max.code 2 (some .int)))))) &&
      ((!decide (k = 2) || (re_wat (ws.getD 0 0) (.methodLink (rCn c) idx Lib.Math.min.name) && (re_wat (ws.getD 1 0) (.static Lib.Math.min.name) && (re_wat (ws.getD 2 0) (.initialized "java/lang/Math") && re_wat (ws.getD 3 0) (.code Lib.Math.min.name Lib.Math.min.code 2 (some .int)))))) &&
      ((!decide (k = 3) || (re_wat (ws.getD 0 0) (.methodLink (rCn c) idx re_gcN) && (re_wat (ws.getD 1 0) (.selects re_ao re_gcN re_gcN) && (re_wat (ws.getD 2 0) (.instanceMethod re_gcN) && re_wat (ws.getD 3 0) (.native re_gcN))))) &&
      ((!decide (k = 4) || re_wat (ws.getD 0 0) (.classLink (rCn c) idx re_ao)) &&
      ((!decide (k = 5) || (re_wat (ws.getD 0 0) (.methodLink (rCn c) idx arraycopyName) && (re_wat (ws.getD 1 0) (.native arraycopyName) && (re_wat (ws.getD 2 0) (.static arraycopyName) && re_wat (ws.getD 3 0) (.initialized "java/lang/System"))))) &&
      (!decide (k = 6) || (re_wat (ws.getD 0 0) (.methodLink (rCn c) idx re_tcN) && (re_wat (ws.getD 1 0) (.selects re_al re_tcN re_taN) && (re_wat (ws.getD 2 0) (.instanceMethod re_taN) && (re_wat (ws.getD 3 0) (.initialized re_al) && (decide (rYn y' = re_taN) && (decide (y' ∈ rIdm) && (decide (rYa y' = 0) && (decide (rHh y' = []) && (match rCl[rYc y']? with
        | some r => decide (r.1 = re_al)
        | none => false)))))))))))))))
theorem rckD_all : (List.range 22).all (re_two rckD) = true := by decide +kernel
theorem rOkJ : re_okJ rN rG := by
  intro y idx k y' h
  have h : rJd (Nat.div y 64) idx = some (k, y') := h
  have hk : rckD (Nat.div y 64) idx = true := re_two_ok rckD_all (re_cond (by unfold rJd at h; exact h))
  unfold rckD at hk
  rw [h] at hk
  dsimp only at hk
  split at hk
  next => cases hk
  next ws hw =>
    rw [← re_cls_eq] at hk
    obtain ⟨k0, hk⟩ := (Bool.and_eq_true _ _).mp hk
    obtain ⟨k1, hk⟩ := (Bool.and_eq_true _ _).mp hk
    obtain ⟨k2, hk⟩ := (Bool.and_eq_true _ _).mp hk
    obtain ⟨k3, hk⟩ := (Bool.and_eq_true _ _).mp hk
    obtain ⟨k4, hk⟩ := (Bool.and_eq_true _ _).mp hk
    obtain ⟨k5, k6⟩ := (Bool.and_eq_true _ _).mp hk
    refine ⟨fun e => re_wat_ok (re_imp k0 e), fun e => ?_, fun e => ?_, fun e => ?_, fun e => re_wat_ok (re_imp k4 e), fun e => ?_, fun e => ?_⟩
    · have q := re_imp k1 e
      simp only [Bool.and_eq_true] at q
      exact ⟨re_wat_ok q.1, re_wat_ok q.2.1, re_wat_ok q.2.2.1, re_wat_ok q.2.2.2⟩
    · have q := re_imp k2 e
      simp only [Bool.and_eq_true] at q
      exact ⟨re_wat_ok q.1, re_wat_ok q.2.1, re_wat_ok q.2.2.1, re_wat_ok q.2.2.2⟩
    · have q := re_imp k3 e
      simp only [Bool.and_eq_true] at q
      exact ⟨re_wat_ok q.1, re_wat_ok q.2.1, re_wat_ok q.2.2.1, re_wat_ok q.2.2.2⟩
    · have q := re_imp k5 e
      simp only [Bool.and_eq_true] at q
      exact ⟨re_wat_ok q.1, re_wat_ok q.2.1, re_wat_ok q.2.2.1, re_wat_ok q.2.2.2⟩
    · have q := re_imp k6 e
      simp only [Bool.and_eq_true, decide_eq_true_eq] at q
      obtain ⟨q1, q2, q3, q4, q5, q6, q7, q8, q9⟩ := q
      refine ⟨re_wat_ok q1, re_wat_ok q2, re_wat_ok q3, re_wat_ok q4, q5, ?_, q8, ?_⟩
      · have := re_okM_ok q6
        rw [q7] at this
        exact this
      · split at q9
        next r hr => exact ⟨r, hr, of_decide_eq_true q9⟩
        next => cases q9
