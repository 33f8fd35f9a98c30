/-! Code: what is written. -/
/-- from h to h' nothing but S is written, exprs stay, at most n cells are new -/
def mo (S : Nat → Prop) (n : Nat) (h h' : re_H) : Prop := kp S h h' ∧ xk h h' ∧ h'.1 ≤ h.1 + n
theorem mo_rf {S : Nat → Prop} {n : Nat} {h : re_H} : mo S n h h := ⟨kp_rf, xk_rf, Nat.le_add_right _ _⟩
theorem mo_tr {S : Nat → Prop} {n m k : Nat} {h h1 h2 : re_H} (a : mo S n h h1) (b : mo S m h1 h2) (hk : n + m ≤ k) : mo S k h h2 :=
  ⟨kp_tr a.1 b.1, xk_tr a.2.1 b.2.1, by have := a.2.2; have := b.2.2; omega⟩
theorem mo_mono {S S' : Nat → Prop} {n m : Nat} {h h1 : re_H} (a : mo S n h h1) (hs : ∀ x, x < h.1 → S x → S' x) (hn : n ≤ m) : mo S' m h h1 := ⟨kp_mono a.1 hs, a.2.1, by have := a.2.2; omega⟩
theorem mo_hw {S : Nat → Prop} {h : re_H} {a t : Nat} {w : List Value} {c : re_C} (e : re_hg h a = some (t, w)) (ht : ¬ t = 9) (hs : S a) : mo S 0 h (re_hw h a c) := ⟨kp_hw hs, xk_hw e ht, Nat.le_refl _⟩
theorem mo_g {S : Nat → Prop} {n : Nat} {h h' : re_H} {a : Nat} {c : re_C} (m : mo S n h h') (hs : ¬ S a) (e : re_hg h a = some c) : re_hg h' a = some c := kp_g m.1 hs e
theorem mo_sz {S : Nat → Prop} {h h' : re_H} (m : mo S 0 h h') : h'.1 = h.1 := by have := m.2.2; have := m.1.1; omega
def in3 (p a : Nat) : Prop := p ≤ a ∧ a ≤ p + 2
theorem cdr_n {h : re_H} {p cnt : Nat} {ns es : List Value} (c : cdr h p cnt ns es) (i : Nat) (v : Value) : cdr (re_hw h (p + 1) (100, ns.set i v)) p cnt (ns.set i v) es :=
  ⟨by rw [hw_n (by omega)]; exact c.1, hw_s (hg_lt c.2.1), by rw [hw_n (by omega)]; exact c.2.2.1, by rw [List.length_set]; exact c.2.2.2.1, c.2.2.2.2⟩
theorem cdr_e {h : re_H} {p cnt : Nat} {ns es : List Value} (c : cdr h p cnt ns es) (i : Nat) (v : Value) : cdr (re_hw h (p + 2) (103, es.set i v)) p cnt ns (es.set i v) :=
  ⟨by rw [hw_n (by omega)]; exact c.1, by rw [hw_n (by omega)]; exact c.2.1, hw_s (hg_lt c.2.2.1), c.2.2.2.1, by rw [List.length_set]; exact c.2.2.2.2⟩
theorem cdr_c {h : re_H} {p cnt : Nat} {ns es : List Value} (c : cdr h p cnt ns es) (k : Nat) : cdr (re_hw h p (2, [.int (i32 k), .ref (p + 1), .ref (p + 2)])) p k ns es :=
  ⟨hw_s (hg_lt c.1), by rw [hw_n (by omega)]; exact c.2.1, by rw [hw_n (by omega)]; exact c.2.2.1, c.2.2.2.1, c.2.2.2.2⟩
theorem mo_n {h : re_H} {p cnt : Nat} {ns es : List Value} (c : cdr h p cnt ns es) {x : re_C} : mo (in3 p) 0 h (re_hw h (p + 1) x) := mo_hw c.2.1 (by omega) ⟨by omega, by omega⟩
theorem mo_e {h : re_H} {p cnt : Nat} {ns es : List Value} (c : cdr h p cnt ns es) {x : re_C} : mo (in3 p) 0 h (re_hw h (p + 2) x) := mo_hw c.2.2.1 (by omega) ⟨by omega, by omega⟩
theorem mo_c {h : re_H} {p cnt : Nat} {ns es : List Value} (c : cdr h p cnt ns es) {x : re_C} : mo (in3 p) 0 h (re_hw h p x) := mo_hw c.1 (by omega) ⟨by omega, by omega⟩
theorem nty_set {ns : List Value} (t : nty ns) (i : Nat) (x : Int32) : nty (ns.set i (.int x)) := fun j v e => by
  rcases Nat.decEq i j with hne | rfl
  · rw [List.getElem?_set_ne hne] at e
    exact t j v e
  · rw [List.getElem?_set_self' ] at e
    cases h9 : ns[i]? with
    | none => rw [h9] at e; cases e
    | some y => rw [h9] at e; cases e; exact ⟨x, rfl⟩
theorem ety_set {h : re_H} {es : List Value} (t : ety h es) (i : Nat) {v : Value} (hv : v = .null ∨ ∃ (b : Nat) (ws : List Value), v = .ref b ∧ re_hg h b = some (9, ws)) : ety h (es.set i v) := fun j u e => by
  rcases Nat.decEq i j with hne | rfl
  · rw [List.getElem?_set_ne hne] at e
    exact t j u e
  · rw [List.getElem?_set_self' ] at e
    cases h9 : es[i]? with
    | none => rw [h9] at e; cases e
    | some y => rw [h9] at e; cases e; exact hv
theorem ex_9 {h : re_H} {e : Tr} {b : Nat} (z : ex h e (.ref b)) : ∃ ws, re_hg h b = some (9, ws) := by
  obtain ⟨⟨w, h1, -⟩, -⟩ := ex_fd z
  exact ⟨w, h1⟩
theorem get4 {l : List Value} (hl : l.length = 4) {i : Nat} (hi : i < 4) : ∃ v, l[i]? = some v := getl (by omega)
section CW
variable {SC : List Value} {d q : Nat} {h : re_H} {Q : Nat → Value → re_H → Prop} {p : Nat} {C : Cd}
theorem c128 {w : List Value} (e : re_hg h p = some (2, w)) (hw : w.length = 3) (hc : w[0]? = some (.int 0)) (hp : h.1 = p + 1) (K : ∀ h', cd h' p [] → mo (fun a => a = p) 2 h h' → h'.1 = h.1 + 2 → Q 0 .null h') : wp SC 128 d q 0 [(0, .ref p)] [] h Q := by
  obtain ⟨w1, w2, rfl⟩ : ∃ w1 w2, w = [.int 0, w1, w2] := by
    match w, hw, hc with
    | [a, b, c], _, hc => exact ⟨b, c, by cases hc; rfl⟩
  refine B128_0 (B128_4 (i := 4) (s' := q) rfl (by omega) (by omega) (Nat.le_refl _) ?_)
  refine B128_8 (hq_k e) (by simp) ?_
  refine B128_11 (i := 4) (s' := q) rfl (by omega) (by omega) (Nat.le_refl _) ?_
  have k1 : mo (fun a => a = p) 1 h (re_hq h (100, List.replicate 4 (.int 0))) := ⟨kp_hq, xk_hq, Nat.le_refl _⟩
  have k2 := mo_tr k1 (mo_hw (S := fun a => a = p) (c := (2, ([.int 0, w1, w2] : List Value).set 1 (.ref h.1))) (hq_k e) (by omega) rfl) (Nat.le_refl 1)
  have k3 : mo (fun a => a = p) 1 (re_hw (re_hq h (100, List.replicate 4 (.int 0))) p (2, ([.int 0, w1, w2] : List Value).set 1 (.ref h.1))) (re_hq (re_hw (re_hq h (100, List.replicate 4 (.int 0))) p (2, ([.int 0, w1, w2] : List Value).set 1 (.ref h.1))) (103, List.replicate 4 .null)) := ⟨kp_hq, xk_hq, Nat.le_refl _⟩
  have k4 := mo_tr k2 k3 (Nat.le_refl 2)
  have eP : re_hg (re_hq (re_hw (re_hq h (100, List.replicate 4 (.int 0))) p (2, ([.int 0, w1, w2] : List Value).set 1 (.ref h.1))) (103, List.replicate 4 .null)) p = some (2, ([.int 0, w1, w2] : List Value).set 1 (.ref h.1)) := hq_k (hw_s (by rw [hq_1]; omega))
  refine B128_16 eP (by simp) (B128_19 (K _ ⟨List.replicate 4 (.int 0), List.replicate 4 .null, ⟨?_, ?_, ?_, rfl, rfl⟩, ?_, ?_, ⟨by simp, fun i n e z => by cases z⟩⟩ (mo_tr k4 (mo_hw eP (by omega) rfl) (Nat.le_refl 2)) rfl))
  · rw [hw_s (hg_lt eP)]
    rw [hw_1, hq_1, hp]
    rfl
  · rw [hw_n (by omega)]
    refine hq_k ?_
    rw [hw_n (by omega), ← hp]
    exact hq_s
  · rw [hw_n (by omega)]
    have : p + 2 = (re_hw (re_hq h (100, List.replicate 4 (.int 0))) p (2, ([.int 0, w1, w2] : List Value).set 1 (.ref h.1))).1 := by rw [hw_1, hq_1, hp]
    rw [this]
    exact hq_s
  · intro i v z
    rw [List.getElem?_replicate] at z
    split at z
    · cases z; exact ⟨0, rfl⟩
    · cases z
  · intro i v z
    rw [List.getElem?_replicate] at z
    split at z
    · cases z; exact Or.inl rfl
    · cases z
theorem c138 (c : cd h p C) (K : ∀ h', cd h' p [] → mo (in3 p) 0 h h' → Q 0 .null h') : wp SC 138 d q 0 [(0, .ref p)] [] h Q := by
  obtain ⟨ns, es, c1, c2, c3, c4⟩ := c
  have loop : ∀ k i : Nat, i + k = 4 → ∀ (h1 : re_H) (es1 : List Value), cdr h1 p 0 ns es1 → ety h1 es1 → mo (in3 p) 0 h h1 → wp SC 138 d q 7 [(0, .ref p), (1, .int (i32 i))] [] h1 Q := by
    intro k
    induction k with
    | zero =>
      intro i hi h1 es1 r t m
      refine B138_7 (fun _ => B138_25 (K _ ⟨ns, es1, r, c2, t, ⟨by simp, fun i n e z => by cases z⟩⟩ m)) (fun g => absurd ((i3_lt (by omega) (by omega)).mp g) (by omega))
    | succ k ih =>
      intro i hi h1 es1 r t m
      refine B138_7 (fun g => absurd ((i3_lt (by omega) (by omega)).mpr (by omega)) g) (fun _ => ?_)
      refine B138_12 ⟨_, r.1, rfl⟩ r.2.2.1 rfl (by omega) (by rw [r.2.2.2.2]; omega) (B138_19 ?_)
      rw [i3_add]
      exact ih (i + 1) (by omega) _ _ (cdr_e r i .null) (ety_xk (mo_e r).2.1 (ety_set t i (Or.inl rfl))) (mo_tr m (mo_e r) (Nat.le_refl 0))
  exact B138_0 c1.1 (by simp) (B138_5 (loop 4 0 rfl _ es (cdr_c c1 0) (ety_xk (mo_c c1).2.1 c3) (mo_c c1)))
theorem c134 {p' : Nat} {C' : Cd} (c : cd h p C) (c' : cd h p' C') (hp : p + 3 ≤ p' ∨ p' + 3 ≤ p) (K : ∀ h', cd h' p C' → mo (in3 p) 0 h h' → Q 0 .null h') : wp SC 134 d q 0 [(0, .ref p), (1, .ref p')] [] h Q := by
  obtain ⟨ns, es, c1, c2, c3, c4⟩ := c
  obtain ⟨ns', es', b1, b2, b3, b4⟩ := c'
  have loop : ∀ k i : Nat, i + k = 4 → ∀ (h1 : re_H) (ns1 es1 : List Value), cdr h1 p C'.length ns1 es1 → nty ns1 → ety h1 es1 → (∀ j, j < i → ns1[j]? = ns'[j]? ∧ es1[j]? = es'[j]?) → mo (in3 p) 0 h h1 → wp SC 134 d q 10 [(0, .ref p), (1, .ref p'), (2, .int (i32 i))] [] h1 Q := by
    intro k
    induction k with
    | zero =>
      intro i hi h1 ns1 es1 r t1 t2 f m
      refine B134_10 (fun _ => B134_45 (K _ ?_ m)) (fun g => absurd ((i3_lt (by omega) (by omega)).mp g) (by omega))
      have e1 : ns1 = ns' := List.ext_getElem? (fun j => by
        rcases Nat.lt_or_ge j 4 with hj | hj
        · exact (f j (by omega)).1
        · rw [List.getElem?_eq_none (by rw [r.2.2.2.1]; exact hj), List.getElem?_eq_none (by rw [b1.2.2.2.1]; exact hj)])
      have e2 : es1 = es' := List.ext_getElem? (fun j => by
        rcases Nat.lt_or_ge j 4 with hj | hj
        · exact (f j (by omega)).2
        · rw [List.getElem?_eq_none (by rw [r.2.2.2.2]; exact hj), List.getElem?_eq_none (by rw [b1.2.2.2.2]; exact hj)])
      subst e1
      subst e2
      exact ⟨ns1, es1, r, t1, t2, cdc_xk m.2.1 b4⟩
    | succ k ih =>
      intro i hi h1 ns1 es1 r t1 t2 f m
      refine B134_10 (fun g => absurd ((i3_lt (by omega) (by omega)).mpr (by omega)) g) (fun _ => ?_)
      obtain ⟨v1, hv1⟩ := get4 b1.2.2.2.1 (show i < 4 by omega)
      obtain ⟨x1, rfl⟩ := b2 i v1 hv1
      obtain ⟨v2, hv2⟩ := get4 b1.2.2.2.2 (show i < 4 by omega)
      have out : ∀ a, p' ≤ a → a ≤ p' + 2 → ¬ in3 p a := fun a h1 h2 z => by unfold in3 at z; omega
      refine B134_15 ⟨_, r.1, rfl⟩ ⟨_, mo_g m (out _ (by omega) (by omega)) b1.1, rfl⟩ ⟨_, i, mo_g m (out _ (by omega) (by omega)) b1.2.1, rfl, by omega, hv1⟩ r.2.1 rfl (by omega) (by rw [r.2.2.2.1]; omega) ?_
      have r2 := cdr_n r i (.int x1)
      have m2 := mo_tr m (mo_n r (x := (100, ns1.set i (.int x1)))) (Nat.le_refl 0)
      refine B134_27 (re5 := ety_R b3 hv2) ⟨_, r2.1, rfl⟩ ⟨_, mo_g m2 (out _ (by omega) (by omega)) b1.1, rfl⟩ ⟨_, i, mo_g m2 (out _ (by omega) (by omega)) b1.2.2.1, rfl, by omega, hv2⟩ r2.2.2.1 rfl (by omega) (by rw [r2.2.2.2.2]; omega) (ety_xk m2.2.1 b3 i v2 hv2) ?_
      have r3 := cdr_e r2 i v2
      have m3 := mo_tr m2 (mo_e r2 (x := (103, es1.set i v2))) (Nat.le_refl 0)
      refine B134_39 ?_
      rw [i3_add]
      refine ih (i + 1) (by omega) _ _ _ r3 (nty_set t1 i x1) (ety_set (ety_xk (mo_tr (mo_n r) (mo_e r2) (Nat.le_refl 0)).2.1 t2) i (ety_xk m3.2.1 b3 i v2 hv2)) (fun j hj => ?_) m3
      rcases Nat.decEq i j with hne | rfl
      · rw [List.getElem?_set_ne hne, List.getElem?_set_ne hne]
        exact f j (by omega)
      · rw [List.getElem?_set_self (by rw [r.2.2.2.1]; omega), List.getElem?_set_self (by rw [r.2.2.2.2]; omega), hv1, hv2]
        exact ⟨rfl, rfl⟩
  exact B134_0 ⟨_, b1.1, rfl⟩ c1.1 (by simp) (B134_8 (loop 4 0 rfl _ ns es (cdr_c c1 C'.length) c2 (ety_xk (mo_c c1).2.1 c3) (fun j hj => by omega) (mo_c c1)))
end CW
