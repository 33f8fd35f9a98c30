/-! Code: put, takeOut, sameAs, exchange. -/
def cput (C : Cd) (nm : Nat) (e : Tr) : Cd := match pof nm C with
  | some i => C.set i (nm, e)
  | none => C ++ [(nm, e)]
theorem pof_some {nm : Nat} : ∀ {C : Cd} {i : Nat}, pof nm C = some i → i < C.length ∧ ∃ e, C[i]? = some (nm, e)
  | [], _, h => by cases h
  | q :: r, i, h => by
    rw [pof_cons] at h
    split at h
    next e => cases h; exact ⟨by simp, q.2, by rw [← e]; rfl⟩
    next e =>
      cases hp : pof nm r with
      | none => rw [hp] at h; cases h
      | some j =>
        rw [hp] at h
        cases h
        obtain ⟨h1, e', h2⟩ := pof_some hp
        exact ⟨by simp; omega, e', by simpa using h2⟩
theorem pof_none {nm : Nat} : ∀ {C : Cd}, pof nm C = none → ∀ (i n : Nat) (e : Tr), C[i]? = some (n, e) → ¬ n = nm
  | [], _, i, n, e, h => by simp at h
  | q :: r, h, i, n, e, hi => by
    rw [pof_cons] at h
    split at h
    next => cases h
    next hne =>
      cases hp : pof nm r with
      | some j => rw [hp] at h; cases h
      | none =>
        cases i with
        | zero => cases (show q = (n, e) from by simpa using hi); exact hne
        | succ i => exact pof_none hp i n e (by simpa using hi)
noncomputable def ceq (C C' : Cd) : Bool := @decide (C = C') (Classical.propDecidable _)
theorem ceq_t {a b : Cd} : ceq a b = true ↔ a = b := by unfold ceq; simp
theorem ceq_f {a b : Cd} : ceq a b = false ↔ ¬ a = b := by unfold ceq; simp
def cxg (nm ot : Nat) (C : Cd) : Cd := C.map (fun q => (if q.1 = nm then ot else q.1, xgd nm ot q.2))
def cxn (nm : Nat) (C : Cd) : Nat := C.foldl (fun m q => m + (if q.1 = nm then 1 else 0) + cfr nm q.2) 0
def cps (C : Cd) : Nat := (C.map (fun q => pts q.2)).sum
section CW
variable {SC : List Value} {d q : Nat} {h : re_H} {Q : Nat → Value → re_H → Prop} {p : Nat} {C : Cd}
theorem oI_neg {o : Option Nat} (ho : ∀ i, o = some i → i < 2147483648) : oI o < 0 ↔ o = none := by
  cases o with
  | none => exact ⟨fun _ => rfl, fun _ => by decide⟩
  | some i => exact ⟨fun g => absurd g (i3_neg (ho i rfl)), fun g => by cases g⟩
theorem c136 {nm b : Nat} {e : Tr} (hn : nm < 16) (c : cd h p C) (z : ex h e (.ref b)) (hp : pts e ≤ 30) (hr : pof nm C = none → C.length < 4) (K : ∀ h', cd h' p (cput C nm e) → mo (in3 p) 0 h h' → Q 0 .null h') : wp SC 136 (d + 1) q 0 [(0, .ref p), (1, .int (i32 nm)), (2, .ref b)] [] h Q := by
  have c0 := c
  obtain ⟨ns, es, c1, c2, c3, c4⟩ := c
  have hC := c4.1
  have put : ∀ (h1 : re_H) (i cnt : Nat), i < 4 → cdr h1 p cnt ns es → mo (in3 p) 0 h h1 → cnt = (cput C nm e).length → (∀ j n' e', (cput C nm e)[j]? = some (n', e') → (j = i ∧ n' = nm ∧ e' = e) ∨ (¬ j = i ∧ C[j]? = some (n', e'))) → cnt ≤ 4 → wp SC 136 (d + 1) q 30 [(0, .ref p), (1, .int (i32 nm)), (2, .ref b), (3, .int (i32 i))] [] h1 Q := by
    intro h1 i cnt hi r m hcnt hC' hc4
    refine B136_30 (Or.inr ⟨b, rfl⟩) (fun g => absurd g (i3_neg (by omega))) (fun _ => ?_)
    refine B136_34 (Or.inr ⟨b, rfl⟩) ⟨_, r.1, rfl⟩ r.2.1 rfl (by omega) (by rw [r.2.2.2.1]; omega) ?_
    have r2 := cdr_n r i (.int (i32 nm))
    have m2 := mo_tr m (mo_n r (x := (100, ns.set i (.int (i32 nm))))) (Nat.le_refl 0)
    refine B136_41 (Or.inr ⟨b, rfl⟩) ⟨_, r2.1, rfl⟩ r2.2.2.1 rfl (by omega) (by rw [r2.2.2.2.2]; omega) (Or.inr ⟨b, _, rfl, (m2.2.1 _ _ (ex_9 z).choose_spec)⟩) (B136_48 (K _ ?_ (mo_tr m2 (mo_e r2) (Nat.le_refl 0))))
    have m3 := mo_tr m2 (mo_e r2 (x := (103, es.set i (.ref b)))) (Nat.le_refl 0)
    refine ⟨_, _, by rw [← hcnt]; exact cdr_e r2 i (.ref b), nty_set c2 i _, ety_set (ety_xk m3.2.1 c3) i (Or.inr ⟨b, _, rfl, m3.2.1 _ _ (ex_9 z).choose_spec⟩), ⟨by rw [← hcnt]; exact hc4, fun j n' e' hj => ?_⟩⟩
    rcases hC' j n' e' hj with ⟨rfl, rfl, rfl⟩ | ⟨hne, g⟩
    · exact ⟨List.getElem?_set_self (by rw [r.2.2.2.1]; omega), hn, b, List.getElem?_set_self (by rw [r.2.2.2.2]; omega), ex_xk m3.2.1 z, hp⟩
    · obtain ⟨g1, g2, b', g3, g4, g5⟩ := c4.2 j n' e' g
      exact ⟨by rw [List.getElem?_set_ne (fun y => hne y.symm)]; exact g1, g2, b', by rw [List.getElem?_set_ne (fun y => hne y.symm)]; exact g3, ex_xk m3.2.1 g4, g5⟩
  refine B136_0 (Or.inr ⟨b, rfl⟩) c1.1 rfl (c135 hn c0 (ret1 ?_))
  cases hpo : pof nm C with
  | some i =>
    have hi := (pof_some hpo).1
    refine B136_5 (Or.inr ⟨b, rfl⟩) (fun _ => ?_) (fun g => absurd g (i3_neg (by omega)))
    have hcp : cput C nm e = C.set i (nm, e) := by unfold cput; rw [hpo]
    refine put h i C.length (by omega) c1 mo_rf (by rw [hcp, List.length_set]) (fun j n' e' hj => ?_) hC
    rw [hcp] at hj
    rcases Nat.decEq i j with hne | rfl
    · rw [List.getElem?_set_ne hne] at hj
      exact Or.inr ⟨fun y => hne y.symm, hj⟩
    · rw [List.getElem?_set_self hi] at hj
      cases hj
      exact Or.inl ⟨rfl, rfl, rfl⟩
  | none =>
    have hl := hr hpo
    have hcp : cput C nm e = C ++ [(nm, e)] := by unfold cput; rw [hpo]
    refine B136_5 (Or.inr ⟨b, rfl⟩) (fun g => absurd (show (-1 : Int32) < 0 by decide) g) (fun _ => ?_)
    refine B136_10 (Or.inr ⟨b, rfl⟩) ⟨_, c1.1, rfl⟩ (fun g => absurd ((i3_lt (by omega) (by omega)).mpr hl) g) (fun _ => ?_)
    refine B136_18 (Or.inr ⟨b, rfl⟩) ⟨_, c1.1, rfl⟩ c1.1 (by simp) (B136_29 (Or.inr ⟨b, rfl⟩) ?_)
    rw [i3_add]
    refine put _ C.length (C.length + 1) (by omega) (cdr_c c1 _) (mo_c c1) (by rw [hcp]; simp) (fun j n' e' hj => ?_) (by omega)
    rw [hcp] at hj
    rcases Nat.lt_trichotomy j C.length with hlt | rfl | hgt
    · rw [List.getElem?_append_left hlt] at hj
      exact Or.inr ⟨by omega, hj⟩
    · rw [List.getElem?_append_right (Nat.le_refl _), Nat.sub_self] at hj
      cases hj
      exact Or.inl ⟨rfl, rfl, rfl⟩
    · rw [List.getElem?_eq_none (by simp; omega)] at hj
      cases hj
theorem c137 {i : Nat} (c : cd h p C) (hi : i < C.length) (K : ∀ h', cd h' p (C.eraseIdx i) → mo (in3 p) 0 h h' → Q 0 .null h') : wp SC 137 d q 0 [(0, .ref p), (1, .int (i32 i))] [] h Q := by
  obtain ⟨ns, es, c1, c2, c3, c4⟩ := c
  have hC := c4.1
  obtain ⟨L, hL⟩ : ∃ L, C.length = L + 1 := ⟨C.length - 1, by omega⟩
  have loop : ∀ k j : Nat, j + k = L → ∀ (h1 : re_H) (ns1 es1 : List Value), cdr h1 p L ns1 es1 → nty ns1 → ety h1 es1 → i ≤ j → (∀ x, x < 4 → ns1[x]? = ns[if i ≤ x ∧ x < j then x + 1 else x]? ∧ es1[x]? = es[if i ≤ x ∧ x < j then x + 1 else x]?) → mo (in3 p) 0 h h1 → wp SC 137 d q 20 [(0, .ref p), (2, .int (i32 j))] [] h1 Q := by
    intro k
    induction k with
    | zero =>
      intro j hj h1 ns1 es1 r t1 t2 hij f m
      have hjL : j = L := by omega
      subst hjL
      refine B137_20 ⟨_, r.1, rfl⟩ (fun _ => ?_) (fun g => absurd ((i3_lt (by omega) (by omega)).mp g) (by omega))
      refine B137_62 (i := j) ⟨_, r.1, rfl⟩ ⟨_, r.1, rfl⟩ r.2.2.1 rfl (by omega) (by rw [r.2.2.2.2]; omega) (B137_72 (K _ ?_ (mo_tr m (mo_e r) (Nat.le_refl 0))))
      have m3 := mo_tr m (mo_e r (x := (103, es1.set j .null))) (Nat.le_refl 0)
      have hlen : (C.eraseIdx i).length = j := by rw [List.length_eraseIdx_of_lt hi]; omega
      refine ⟨_, _, by rw [hlen]; exact cdr_e r j .null, t1, ety_set (ety_xk (mo_e r).2.1 t2) j (Or.inl rfl), ⟨by omega, fun x n e hx => ?_⟩⟩
      have hxl : x < j := by have := (List.getElem?_eq_some_iff.mp hx).1; omega
      rw [List.getElem?_eraseIdx] at hx
      obtain ⟨f1, f2⟩ := f x (by omega)
      have hx' : C[if i ≤ x ∧ x < j then x + 1 else x]? = some (n, e) := by
        split at hx
        next g => rw [if_neg (by omega)]; exact hx
        next g => rw [if_pos ⟨by omega, hxl⟩]; exact hx
      obtain ⟨g1, g2, b, g3, g4, g5⟩ := c4.2 _ n e hx'
      exact ⟨by rw [f1]; exact g1, g2, b, by rw [List.getElem?_set_ne (by omega), f2]; exact g3, ex_xk m3.2.1 g4, g5⟩
    | succ k ih =>
      intro j hj h1 ns1 es1 r t1 t2 hij f m
      refine B137_20 ⟨_, r.1, rfl⟩ (fun g => absurd ((i3_lt (by omega) (by omega)).mpr (by omega)) g) (fun _ => ?_)
      obtain ⟨v1, hv1⟩ := get4 r.2.2.2.1 (show j + 1 < 4 by omega)
      obtain ⟨x1, rfl⟩ := t1 _ v1 hv1
      obtain ⟨v2, hv2⟩ := get4 r.2.2.2.2 (show j + 1 < 4 by omega)
      refine B137_28 ⟨_, r.1, rfl⟩ ⟨_, r.1, rfl⟩ ⟨_, j + 1, r.2.1, i3_add _ _, by omega, hv1⟩ r.2.1 rfl (by omega) (by rw [r.2.2.2.1]; omega) ?_
      have r2 := cdr_n r j (.int x1)
      have m2 := mo_tr m (mo_n r (x := (100, ns1.set j (.int x1)))) (Nat.le_refl 0)
      have t2' := ety_xk (mo_n r (x := (100, ns1.set j (.int x1)))).2.1 t2
      refine B137_42 (re5 := ety_R t2' hv2) ⟨_, r2.1, rfl⟩ ⟨_, r2.1, rfl⟩ ⟨_, j + 1, r2.2.2.1, i3_add _ _, by omega, hv2⟩ r2.2.2.1 rfl (by omega) (by rw [r2.2.2.2.2]; omega) (t2' _ v2 hv2) ?_
      have r3 := cdr_e r2 j v2
      have m3 := mo_tr m2 (mo_e r2 (x := (103, es1.set j v2))) (Nat.le_refl 0)
      refine B137_56 ?_
      rw [i3_add]
      have t3 := ety_xk (mo_e r2 (x := (103, es1.set j v2))).2.1 t2'
      refine ih (j + 1) (by omega) _ _ _ r3 (nty_set t1 j x1) (ety_set t3 j (t3 _ v2 hv2)) (by omega) (fun x hx => ?_) m3
      obtain ⟨f1, f2⟩ := f x hx
      obtain ⟨f3, f4⟩ := f (j + 1) (by omega)
      rw [if_neg (by omega)] at f3 f4
      rcases Nat.decEq j x with hne | rfl
      · rw [List.getElem?_set_ne hne, List.getElem?_set_ne hne, f1, f2]
        by_cases g : i ≤ x ∧ x < j
        · rw [if_pos g, if_pos ⟨g.1, by omega⟩]; exact ⟨rfl, rfl⟩
        · rw [if_neg g, if_neg (by omega)]; exact ⟨rfl, rfl⟩
      · rw [List.getElem?_set_self (by rw [r.2.2.2.1]; omega), List.getElem?_set_self (by rw [r.2.2.2.2]; omega), if_pos ⟨hij, by omega⟩, ← f3, ← f4, hv1, hv2]
        exact ⟨rfl, rfl⟩
  refine B137_0 ⟨_, c1.1, rfl⟩ (fun _ => ?_) (fun g => absurd ((i3_zero (by omega)).mp g) (by omega))
  refine B137_8 ⟨_, c1.1, rfl⟩ c1.1 (by simp) (B137_18 ?_)
  rw [hL, i3_sub (by omega)]
  refine loop (L - i) i (by omega) _ ns es (cdr_c c1 L) c2 (ety_xk (mo_c c1).2.1 c3) (Nat.le_refl _) (fun x hx => ?_) (mo_c c1)
  rw [if_neg (by omega)]
  exact ⟨rfl, rfl⟩
theorem c131 {p' : Nat} {C' : Cd} (c : cd h p C) (c' : cd h p' C') (K : Q 1 (.int (ib (ceq C C'))) h) : wp SC 131 (d + 31) q 0 [(0, .ref p), (1, .ref p')] [] h Q := by
  obtain ⟨ns, es, c1, c2, c3, c4⟩ := c
  obtain ⟨ns', es', b1, b2, b3, b4⟩ := c'
  have hC := c4.1
  have hC' := b4.1
  have no : ¬ C = C' → Q 1 (.int (i32 0)) h := fun z => by rw [ceq_f.mpr z] at K; exact K
  have loop : ∀ k i : Nat, i + k = C.length → C.length = C'.length → (∀ j, j < i → C[j]? = C'[j]?) → wp SC 131 (d + 31) q 15 [(0, .ref p), (1, .ref p'), (2, .int (i32 i))] [] h Q := by
    intro k
    induction k with
    | zero =>
      intro i hi hl f
      refine B131_15 ⟨_, c1.1, rfl⟩ (fun _ => B131_64 ?_) (fun g => absurd ((i3_lt (by omega) (by omega)).mp g) (by omega))
      have : C = C' := List.ext_getElem? (fun j => by
        rcases Nat.lt_or_ge j C.length with hj | hj
        · exact f j (by omega)
        · rw [List.getElem?_eq_none hj, List.getElem?_eq_none (by omega)])
      rw [ceq_t.mpr this] at K
      exact K
    | succ k ih =>
      intro i hi hl f
      obtain ⟨⟨n, e⟩, hq⟩ := getl (C := C) (i := i) (by omega)
      obtain ⟨⟨n', e'⟩, hq'⟩ := getl (C := C') (i := i) (by omega)
      obtain ⟨g1, g2, b, g3, g4, g5⟩ := c4.2 i n e hq
      obtain ⟨f1, f2, b', f3, f4, f5⟩ := b4.2 i n' e' hq'
      refine B131_15 ⟨_, c1.1, rfl⟩ (fun g => absurd ((i3_lt (by omega) (by omega)).mpr (by omega)) g) (fun _ => ?_)
      refine B131_23 ⟨_, c1.1, rfl⟩ ⟨_, i, c1.2.1, rfl, by omega, g1⟩ ⟨_, b1.1, rfl⟩ ⟨_, i, b1.2.1, rfl, by omega, f1⟩ (fun g => B131_56 (no (fun y => ?_))) (fun g => ?_)
      · subst y
        rw [hq] at hq'
        cases hq'
        exact g rfl
      · have en := (i3_eq (by omega) (by omega)).mp g
        subst en
        refine B131_38 ⟨_, c1.1, rfl⟩ (Or.inr ⟨b, rfl⟩) ⟨_, i, c1.2.2.1, rfl, by omega, g3⟩ ⟨_, b1.1, rfl⟩ (Or.inr ⟨b', rfl⟩) ⟨_, i, b1.2.2.1, rfl, by omega, f3⟩ (c641 g4 f4 (by have := dep_pts e; omega) (ret1 ?_))
        refine B131_53 (fun g => B131_58 ?_) (fun g => B131_56 (no (fun y => ?_)))
        · have ee : e = e' := Classical.not_not.mp (fun y => g (ib_0.mpr (teq_ne y)))
          subst ee
          rw [i3_add]
          refine ih (i + 1) (by omega) hl (fun j hj => ?_)
          rcases Nat.decEq i j with hne | rfl
          · exact f j (by omega)
          · rw [hq, hq']
        · subst y
          rw [hq] at hq'
          cases hq'
          exact teq_f.mp (ib_0.mp g) rfl
  refine B131_0 ⟨_, c1.1, rfl⟩ ⟨_, b1.1, rfl⟩ (fun g => B131_13 (loop C.length 0 (by omega) ((i3_eq (by omega) (by omega)).mp g) (fun j hj => by omega))) (fun g => B131_11 (no (fun y => g (by rw [y]))))
theorem c140 {nm ot : Nat} (hn : nm < 16) (ho : ot < 16) (c : cd h p C) (K : ∀ h', cd h' p (cxg nm ot C) → mo (in3 p) (cps C) h h' → Q 1 (.int (i32 (cxn nm C))) h') : wp SC 140 (d + 31) q 0 [(0, .ref p), (1, .int (i32 nm)), (2, .int (i32 ot))] [] h Q := by
  obtain ⟨ns, es, c1, c2, c3, c4⟩ := c
  have hC := c4.1
  have loop : ∀ k i : Nat, i + k = C.length → ∀ (h1 : re_H) (ns1 es1 : List Value) (m : Nat), cdr h1 p C.length ns1 es1 → nty ns1 → ety h1 es1 → cdc h1 ns1 es1 (cxg nm ot (C.take i) ++ C.drop i) → mo (in3 p) (cps (C.take i)) h h1 → cxn nm C = (C.drop i).foldl (fun m q => m + (if q.1 = nm then 1 else 0) + cfr nm q.2) m → wp SC 140 (d + 31) q 5 [(0, .ref p), (1, .int (i32 nm)), (2, .int (i32 ot)), (3, .int (i32 m)), (4, .int (i32 i))] [] h1 Q := by
    intro k
    induction k with
    | zero =>
      intro i hi h1 ns1 es1 m r t1 t2 cc mm he
      refine B140_5 ⟨_, r.1, rfl⟩ (fun _ => B140_75 ?_) (fun g => absurd ((i3_lt (by omega) (by omega)).mp g) (by omega))
      rw [dropn (by omega)] at he cc
      rw [List.take_of_length_le (by omega), List.append_nil] at cc
      rw [List.take_of_length_le (by omega)] at mm
      have := K h1 ⟨ns1, es1, by unfold cxg; rw [List.length_map]; exact r, t1, t2, cc⟩ mm
      rw [he] at this
      exact this
    | succ k ih =>
      intro i hi h1 ns1 es1 m r t1 t2 cc mm he
      obtain ⟨⟨n, e⟩, hq⟩ := getl (C := C) (i := i) (by omega)
      have hlt : (cxg nm ot (C.take i)).length = i := by unfold cxg; rw [List.length_map, List.length_take]; omega
      have hat : (cxg nm ot (C.take i) ++ C.drop i)[i]? = some (n, e) := by
        rw [List.getElem?_append_right (by omega), hlt, Nat.sub_self, dropc hq]; rfl
      obtain ⟨g1, g2, b, g3, g4, g5⟩ := cc.2 i n e hat
      have htk : C.take (i + 1) = C.take i ++ [(n, e)] := by rw [List.take_add_one, hq]; rfl
      have hnew : cxg nm ot (C.take (i + 1)) ++ C.drop (i + 1) = (cxg nm ot (C.take i) ++ C.drop i).set i (if n = nm then ot else n, xgd nm ot e) := by
        rw [htk, dropc hq, List.set_append_right (h := by omega), hlt, Nat.sub_self]
        unfold cxg
        rw [List.map_append]
        simp
      have hps : cps (C.take (i + 1)) = cps (C.take i) + pts e := by
        rw [htk]; unfold cps; rw [List.map_append, List.sum_append]; simp
      refine B140_5 ⟨_, r.1, rfl⟩ (fun g => absurd ((i3_lt (by omega) (by omega)).mpr (by omega)) g) (fun _ => ?_)
      have go : ∀ (h2 : re_H) (ns2 : List Value) (m2 : Nat), cdr h2 p C.length ns2 es1 → nty ns2 → ety h2 es1 → ns2[i]? = some (.int (i32 (if n = nm then ot else n))) → (∀ j, ¬ j = i → ns2[j]? = ns1[j]?) → mo (in3 p) 0 h1 h2 → m2 = m + (if n = nm then 1 else 0) → wp SC 140 (d + 31) q 36 [(0, .ref p), (1, .int (i32 nm)), (2, .int (i32 ot)), (3, .int (i32 m2)), (4, .int (i32 i))] [] h2 Q := by
        intro h2 ns2 m2 r2 s1 s2 f1 f2 mo2 hm2
        have g4' := ex_xk mo2.2.1 g4
        refine B140_36 ⟨_, r2.1, rfl⟩ (Or.inr ⟨b, rfl⟩) ⟨_, i, r2.2.2.1, rfl, by omega, g3⟩ (c642 nm hn g4' (by have := dep_pts e; omega) (ret1 ?_))
        refine B140_48 ⟨_, r2.1, rfl⟩ ⟨_, r2.1, rfl⟩ (Or.inr ⟨b, rfl⟩) ⟨_, i, r2.2.2.1, rfl, by omega, g3⟩ (c644 nm ot hn ho g4' (by have := dep_pts e; omega) (fun v' h3 z3 k3 l3 => ret3 ?_))
        have m3 : mo (in3 p) (pts e) h2 h3 := ⟨kp_mono k3 (fun _ _ z => z.elim), xk_none k3, l3⟩
        have r3 : cdr h3 p C.length ns2 es1 := cdr_fr (fun a h4 h5 => k3.2 a (by
          have e1 := hg_lt r2.1; have e2 := hg_lt r2.2.1; have e3 := hg_lt r2.2.2.1; omega) id) r2
        have hv : v' = .null ∨ ∃ (b : Nat) (ws : List Value), v' = .ref b ∧ re_hg h3 b = some (9, ws) := by
          rcases ex_R z3 with rfl | ⟨b', rfl⟩
          · exact Or.inl rfl
          · obtain ⟨ws, z4⟩ := ex_9 z3
            exact Or.inr ⟨b', ws, rfl, z4⟩
        refine B140_68 (ex_R z3) r3.2.2.1 rfl (by omega) (by rw [r3.2.2.2.2]; omega) hv (B140_69 ?_)
        rw [i3_add, i3_add]
        have m4 := mo_tr m3 (mo_e r3 (x := (103, es1.set i v'))) (Nat.le_refl (pts e))
        have hx4 : xk h1 (re_hw h3 (p + 2) (103, es1.set i v')) := xk_tr mo2.2.1 m4.2.1
        have xe := (mo_e r3 (x := (103, es1.set i v'))).2.1
        refine ih (i + 1) (by omega) _ _ _ _ (cdr_e r3 i v') s1 (ety_set (ety_xk m4.2.1 s2) i ?_) ?_ (mo_tr mm (mo_tr mo2 m4 (Nat.le_refl _)) (by omega)) (by rw [he, dropc hq, hm2]; rfl)
        · rcases hv with rfl | ⟨b', ws, rfl, z4⟩
          · exact Or.inl rfl
          · exact Or.inr ⟨b', ws, rfl, xe _ _ z4⟩
        · rw [hnew]
          refine ⟨by rw [List.length_set]; exact cc.1, fun j n' e' hj => ?_⟩
          rcases Nat.decEq i j with hne | rfl
          · rw [List.getElem?_set_ne hne] at hj
            obtain ⟨y1, y2, b', y3, y4, y5⟩ := cc.2 j n' e' hj
            exact ⟨by rw [f2 j (fun w => hne w.symm)]; exact y1, y2, b', by rw [List.getElem?_set_ne hne]; exact y3, ex_xk hx4 y4, y5⟩
          · rw [List.getElem?_set_self (by rw [List.length_append, hlt, List.length_drop]; omega)] at hj
            cases hj
            rcases ex_cases z3 with ⟨z5, -⟩ | ⟨s', w', n', a', b', c', x', va, vb, vc, -, rfl, -⟩
            · exfalso
              rcases ex_cases g4 with ⟨-, z6⟩ | ⟨s', w', n', a', b', c', x', va, vb, vc, rfl, -⟩
              · cases z6
              · rw [xgd_E] at z5
                split at z5
                · split at z5 <;> exact tE_ne z5
                · exact tE_ne z5
            · exact ⟨f1, by split <;> omega, x', List.getElem?_set_self (by rw [r.2.2.2.2]; omega), ex_xk xe z3, Nat.le_trans (pts_xgd nm ot e).1 g5⟩
      refine B140_14 ⟨_, r.1, rfl⟩ ⟨_, i, r.2.1, rfl, by omega, g1⟩ (fun g => ?_) (fun g => ?_)
      · have hne : ¬ n = nm := fun y => g (by rw [y])
        exact go h1 ns1 m r t1 t2 (by rw [if_neg hne]; exact g1) (fun _ _ => rfl) mo_rf (by rw [if_neg hne]; rfl)
      · have he' := (i3_eq (by omega) (by omega)).mp g
        refine B140_25 ⟨_, r.1, rfl⟩ r.2.1 rfl (by omega) (by rw [r.2.2.2.1]; omega) (B140_33 ?_)
        rw [i3_add]
        exact go _ _ _ (cdr_n r i _) (nty_set t1 i _) (ety_xk (mo_n r).2.1 t2) (by rw [if_pos he']; exact List.getElem?_set_self (by rw [r.2.2.2.1]; omega)) (fun j hj => List.getElem?_set_ne (fun y => hj y.symm)) (mo_n r) (by rw [if_pos he'])
  exact B140_0 (loop C.length 0 (by omega) h ns es 0 c1 c2 c3 (by simpa [cxg] using c4) mo_rf rfl)
end CW
