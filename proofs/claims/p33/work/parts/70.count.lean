/-! How many nodes a run has made; the frame of whole runs. -/
noncomputable def hdc (p : Prop) : Bool := @decide p (Classical.propDecidable p)
theorem hdc_t {p : Prop} : hdc p = true ↔ p := by
  unfold hdc
  exact @decide_eq_true_iff p (Classical.propDecidable p)
noncomputable def cn (E : Ev) (N : List Nat) (r : Nat) : Nat := (N.filter (fun x => hdc (E.2.2.1 x ∧ E.2.2.2 x = r))).length
/-- runs are numbered below T; none has made too many -/
def cok (E : Ev) (N : List Nat) (T : Nat) : Prop := (∀ x, E.2.2.1 x → E.2.2.2 x < T) ∧ ∀ r, 0 < r → cn E N r ≤ 320
theorem flt_le {p q : Nat → Bool} : ∀ {l : List Nat}, (∀ x, x ∈ l → p x = true → q x = true) → (l.filter p).length ≤ (l.filter q).length
  | [], _ => Nat.le_refl _
  | x :: r, h => by
    have ih := flt_le (l := r) (fun y hy => h y (List.mem_cons_of_mem _ hy))
    have hx := h x (List.mem_cons_self ..)
    rw [List.filter_cons, List.filter_cons]
    cases hp : p x with
    | true =>
      rw [if_pos rfl, if_pos (hx hp)]
      exact Nat.succ_le_succ ih
    | false =>
      rw [if_neg (by decide)]
      split
      · exact Nat.le_succ_of_le ih
      · exact ih
theorem flt_split (p q : Nat → Bool) : ∀ l : List Nat, (l.filter p).length = (l.filter (fun x => p x && q x)).length + (l.filter (fun x => p x && !q x)).length
  | [] => rfl
  | x :: r => by
    have ih := flt_split p q r
    rw [List.filter_cons, List.filter_cons, List.filter_cons]
    cases p x <;> cases q x <;> simp [ih] <;> omega
theorem flt_none {p : Nat → Bool} {l : List Nat} (h : ∀ x, x ∈ l → ¬ p x = true) : (l.filter p).length = 0 := by
  rw [List.length_eq_zero_iff, List.filter_eq_nil_iff]
  exact h
theorem cn_L {E : Ev} {N : List Nat} {T : Nat} (c : cok E N T) : ∀ {L : List Nat} {p : Nat → Bool}, ¬ 0 ∈ L → (∀ x, x ∈ N → p x = true → E.2.2.1 x ∧ E.2.2.2 x ∈ L) → (N.filter p).length ≤ 320 * L.length
  | [], p, _, h => by
    rw [flt_none (fun x hx hp => by have := (h x hx hp).2; cases this)]
    exact Nat.zero_le _
  | r :: L, p, h0, h => by
    have h1 := cn_L c (L := L) (p := fun x => p x && !decide (E.2.2.2 x = r)) (fun y => h0 (List.mem_cons_of_mem _ y)) (fun x hx hp => by
      simp only [Bool.and_eq_true, Bool.not_eq_true', decide_eq_false_iff_not] at hp
      obtain ⟨a, b⟩ := h x hx hp.1
      exact ⟨a, (List.mem_cons.mp b).resolve_left hp.2⟩)
    have hr : 0 < r := by
      rcases Nat.eq_zero_or_pos r with g | g
      · subst g; exact absurd (List.mem_cons_self ..) h0
      · exact g
    have h2 : (N.filter (fun x => p x && decide (E.2.2.2 x = r))).length ≤ cn E N r := flt_le (fun x hx hp => by
      simp only [Bool.and_eq_true, decide_eq_true_eq] at hp
      exact hdc_t.mpr ⟨(h x hx hp.1).1, hp.2⟩)
    have h3 := c.2 r hr
    rw [flt_split p (fun x => decide (E.2.2.2 x = r))]
    rw [List.length_cons]
    omega
/-- all that is handed out is held -/
noncomputable def eFl (E : Ev) (N F : List Nat) : Ev := (E.1, E.2.1, fun x => x ∈ N ∧ ¬ x ∈ F, fun x => if hdc (E.2.2.1 x) = true then E.2.2.2 x else 0)
theorem eFl_le {E : Ev} {N F : List Nat} (h : ∀ x, E.2.2.1 x → x ∈ N ∧ ¬ x ∈ F) : eLe E (eFl E N F) :=
  ⟨fun _ _ => rfl, Nat.le_refl _, fun x hx => ⟨h x hx, if_pos (hdc_t.mpr hx)⟩⟩
theorem cok_fl {E : Ev} {N F : List Nat} {T : Nat} (hT : 0 < T) (c : cok E N T) : cok (eFl E N F) N T := by
  refine ⟨fun x _ => ?_, fun r hr => Nat.le_trans (flt_le (fun x hx hp => ?_)) (c.2 r hr)⟩
  · show (if hdc (E.2.2.1 x) = true then E.2.2.2 x else 0) < T
    split
    next g => exact c.1 x (hdc_t.mp g)
    next => exact hT
  · have hp := (hdc_t.mp hp).2
    have hp : (if hdc (E.2.2.1 x) = true then E.2.2.2 x else 0) = r := hp
    split at hp
    next g => exact hdc_t.mpr ⟨hdc_t.mp g, hp⟩
    next => omega
theorem cok_ct {E : Ev} {N U : List Nat} {T : Nat} (hU : ∀ x, x ∈ U → E.2.2.1 x) (c : cok E N T) : cok (eCt E U) N T :=
  ⟨fun x hx => c.1 x (hU x hx), fun r hr => Nat.le_trans (flt_le (fun x _ hp => hdc_t.mpr ⟨hU x (hdc_t.mp hp).1, (hdc_t.mp hp).2⟩)) (c.2 r hr)⟩
/-- behind a run -/
theorem cok_run {h1 h2 : re_H} {s rb : Nat} {E1 E2 : Ev} {N1 N2 F1 F2 : List Nat} {ho la j T : Nat} (a1 : sto h1 s rb N1 F1 ho la) (a2 : sth h2 E2 s rb N2 F2 (ho + j) la) (hh : ∀ x, E1.2.2.1 x ↔ x ∈ N1 ∧ ¬ x ∈ F1) (c : cok E1 N1 T) (le : eLe E1 E2) (sub : ∀ x, x ∈ N1 → x ∈ N2) (nw : ∀ x, E2.2.2.1 x → E1.2.2.1 x ∨ E2.2.2.2 x = T) (hj : j ≤ 320) : cok E2 N2 (T + 1) := by
  obtain ⟨-, d1, dF1, s1, -, l1, -⟩ := a1
  obtain ⟨⟨-, d2, dF2, s2, -, l2, -⟩, hd2⟩ := a2
  refine ⟨fun x hx => ?_, fun r hr => ?_⟩
  · rcases nw x hx with y | y
    · rw [(le.2.2 x y).2]
      exact Nat.lt_succ_of_lt (c.1 x y)
    · omega
  · rcases Nat.decEq r T with hne | rfl
    · refine Nat.le_trans (nodup_le (d2.filter _) (fun x hx => ?_)) (c.2 r hr)
      obtain ⟨-, hx⟩ := List.mem_filter.mp hx
      obtain ⟨y1, y2⟩ := hdc_t.mp hx
      have h1 : E1.2.2.1 x := (nw x y1).resolve_right (fun y => hne (y2.symm.trans y))
      exact List.mem_filter.mpr ⟨((hh x).mp h1).1, hdc_t.mpr ⟨h1, (le.2.2 x h1).2.symm.trans y2⟩⟩
    · have e1 := part_len (fun x => decide (x ∈ F1)) N1
      have e2 := part_len (fun x => decide (x ∈ F2)) N2
      have f1 : (N1.filter (fun x => decide (x ∈ F1))).length ≤ F1.length := nodup_le (d1.filter _) (fun x hx => of_decide_eq_true (List.mem_filter.mp hx).2)
      have f2 : F2.length ≤ (N2.filter (fun x => decide (x ∈ F2))).length := nodup_le dF2 (fun x hx => List.mem_filter.mpr ⟨s2 x hx, decide_eq_true hx⟩)
      have nd : (N2.filter (fun x => hdc (E2.2.2.1 x ∧ E2.2.2.2 x = r)) ++ N1.filter (fun x => !decide (x ∈ F1))).Nodup := by
        refine List.nodup_append.mpr ⟨d2.filter _, d1.filter _, fun a ha b hb e => ?_⟩
        subst e
        obtain ⟨y1, y2⟩ := hdc_t.mp (List.mem_filter.mp ha).2
        obtain ⟨w1, w2⟩ := List.mem_filter.mp hb
        simp only [Bool.not_eq_true', decide_eq_false_iff_not] at w2
        have h1 := (hh a).mpr ⟨w1, w2⟩
        have := c.1 a h1
        rw [(le.2.2 a h1).2] at y2
        omega
      have := nodup_le nd (N := N2.filter (fun x => !decide (x ∈ F2))) (fun x hx => by
        refine List.mem_filter.mpr ?_
        simp only [Bool.not_eq_true', decide_eq_false_iff_not]
        rcases List.mem_append.mp hx with y | y
        · exact hd2 x (hdc_t.mp (List.mem_filter.mp y).2).1
        · obtain ⟨w1, w2⟩ := List.mem_filter.mp y
          simp only [Bool.not_eq_true', decide_eq_false_iff_not] at w2
          exact hd2 x (le.2.2 x ((hh x).mpr ⟨w1, w2⟩)).1)
      rw [List.length_append] at this
      show (N2.filter (fun x => hdc (E2.2.2.1 x ∧ E2.2.2.2 x = r))).length ≤ 320
      omega
/-- runs, seen from outside -/
def bru (b : Nat) (h : re_H) (N : List Nat) (h' : re_H) (N' : List Nat) : Prop := h.1 ≤ h'.1 ∧ (∀ a, a < h.1 → ¬ inB b a → ¬ a ∈ N → re_hg h' a = re_hg h a) ∧ xk h h' ∧ h'.1 + N.length = h.1 + N'.length ∧ (∀ x, x ∈ N → x ∈ N') ∧ ∀ x, x ∈ N' → x ∈ N ∨ h.1 ≤ x
theorem bru_rf {b : Nat} {h : re_H} {N : List Nat} : bru b h N h N := ⟨Nat.le_refl _, fun _ _ _ _ => rfl, xk_rf, rfl, fun _ y => y, fun _ y => Or.inl y⟩
theorem bru_tr {b : Nat} {h h1 h2 : re_H} {N N1 N2 : List Nat} (a : bru b h N h1 N1) (c : bru b h1 N1 h2 N2) : bru b h N h2 N2 := by
  obtain ⟨a1, a2, a3, a5, a6, a7⟩ := a
  obtain ⟨b1, b2, b3, b5, b6, b7⟩ := c
  refine ⟨Nat.le_trans a1 b1, fun x hx h1 h3 => ?_, xk_tr a3 b3, by omega, fun x hx => b6 x (a6 x hx), fun x hx => ?_⟩
  · rw [b2 x (Nat.lt_of_lt_of_le hx a1) h1 (fun z => (a7 x z).elim h3 (fun z2 => by omega))]
    exact a2 x hx h1 h3
  · rcases b7 x hx with y | y
    · exact a7 x y
    · exact Or.inr (Nat.le_trans a1 y)
theorem bru_brn {b rid : Nat} {h h' : re_H} {E E' : Ev} {N N' : List Nat} (r : brn b rid h E N h' E' N') : bru b h N h' N' :=
  ⟨r.1, fun a h1 h2 h3 => r.2.1 a h1 h2 (Or.inr h3), r.2.2.1, r.2.2.2.2.1, r.2.2.2.2.2.1, r.2.2.2.2.2.2.1⟩
/-- the runs that a value's functions and names are of -/
def rdt : Tr → Nat → Prop
  | .leaf, _ => False
  | .inner k l _ a b, r => ((k = 3 ∨ k = 4) ∧ l.2.1 = r) ∨ rdt a r ∨ rdt b r
theorem rdt_sbt {r : Nat} {t : Tr} : ∀ {v : Tr}, sbt t v → rdt t r → rdt v r
  | .leaf, y, z => by
    have y : t = .leaf := y
    subst y
    exact z
  | .inner k l u a b, y, z => by
    rcases y with y | y | y
    · subst y; exact z
    · exact Or.inr (Or.inl (rdt_sbt y z))
    · exact Or.inr (Or.inr (rdt_sbt y z))
def lrd (RR : Nat → Rs) (r : Nat) : Prop := ∃ (i n : Nat) (v : Tr), i < 24 ∧ (n, v) ∈ rK (RR i) ∧ rdt v r
theorem lvx_rd {h : re_H} {E : Ev} {RR : Nat → Rs} {x : Nat} (z : lvx h E RR x) : E.2.2.1 x ∧ lrd RR (E.2.2.2 x) := by
  obtain ⟨t, z1, i, n, v, hi, hm, hs⟩ := z
  have hx := (nd_at z1).1
  refine ⟨hx, i, n, v, hi, hm, rdt_sbt hs ?_⟩
  match t, z1 with
  | .leaf, z1 => cases z1
  | .inner k l u a b, ⟨x', c0, nm, nu, c3, c4, c5, c6, c7, h1, h2, h3, h4, h0, h5, h6⟩ =>
    cases h1
    exact Or.inl ⟨h6.elim (fun y => Or.inl y.1) (fun y => Or.inr y.1), h3.symm⟩
