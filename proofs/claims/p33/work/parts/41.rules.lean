/-! What a method does from a place on: the walk's judgement, and its rows, an instruction each. -/
def rO (SC : List Value) : re_K := (fun _ _ _ => none, fun _ _ _ => none, SC, fun _ _ _ => none)
/-- from pc on, the method y ends with Q (how: 0 void, 1 int, 2 long, 3 a reference, 4 + e thrown; the answer; the heap), its calls at most d deep, its cells those that the heap grows by and s, its slots at most 11 a cell and 2 s -/
def wp (SC : List Value) (y d s pc : Nat) (lv : List (Nat × Value)) (st : List Value) (h : re_H) (Q : Nat → Value → re_H → Prop) : Prop :=
  ∃ (n : Nat) (r : re_Res), re_go rG (rO SC) n y pc lv st h = some r ∧ (h.1 ≤ r.2.2.1.1 ∧ h.1 + r.2.2.2.1 ≤ r.2.2.1.1 + s ∧ r.2.2.2.2.1 ≤ 11 * r.2.2.2.1 + 2 * s ∧ r.2.2.2.2.2.1 ≤ d + 6 ∧ r.2.2.2.2.2.2 ≤ 100 * d + 200) ∧ Q r.1 r.2.1 r.2.2.1
/-- the instruction at a place -/
abbrev ft (y pc : Nat) (ins : Instr) : Prop := re_tw rG y pc = none ∧ re_ins rG y pc = some ins
/-- null, or a reference -/
def re_R (v : Value) : Prop := v = .null ∨ ∃ a : Nat, v = .ref a
abbrev i32 (n : Nat) : Int32 := Int32.ofNat n
section WP
variable {SC : List Value} {y d s pc : Nat} {lv : List (Nat × Value)} {st : List Value} {h : re_H} {Q Q' : Nat → Value → re_H → Prop} {ins : Instr}
theorem wp_mono (k : wp SC y d s pc lv st h Q) (hq : ∀ k v h', Q k v h' → Q' k v h') : wp SC y d s pc lv st h Q' := by
  obtain ⟨n, r, h1, h2, h3⟩ := k
  exact ⟨n, r, h1, h2, hq _ _ _ h3⟩
theorem wp_up {d' s' : Nat} (hd : d ≤ d') (hs : s ≤ s') (k : wp SC y d s pc lv st h Q) : wp SC y d' s' pc lv st h Q := by
  obtain ⟨n, r, h1, ⟨h2, h3, h4, h5, h7⟩, h6⟩ := k
  exact ⟨n, r, h1, ⟨h2, by omega, by omega, by omega, by omega⟩, h6⟩
theorem wp_weak {lv' : List (Nat × Value)} (hs : re_sb lv' lv) (k : wp SC y d s pc lv' st h Q) : wp SC y d s pc lv st h Q := by
  obtain ⟨n, r, h1, h2⟩ := k
  exact ⟨n, r, re_more n n y pc _ _ st h r (Nat.le_refl _) hs h1, h2⟩
theorem re_sb_nil (lv : List (Nat × Value)) : re_sb [] lv := fun i v z => by cases z
theorem re_sb_at {i : Nat} {v : Value} {l lv : List (Nat × Value)} (h : re_lk lv i = some v) (hs : re_sb l lv) : re_sb ((i, v) :: l) lv := by
  intro j u hj
  rw [re_lk_cons] at hj
  split at hj
  next e => subst e; rw [h]; exact hj
  next => exact hs j u hj
theorem wp_step1 {pc' : Nat} {lv' : List (Nat × Value)} {st' : List Value} {h' : re_H} (k : wp SC y d s pc' lv' st' h' Q) (hh : h'.1 = h.1) (e : ∀ n, re_go rG (rO SC) (n + 1) y pc lv st h = re_go rG (rO SC) n y pc' lv' st' h') : wp SC y d s pc lv st h Q := by
  obtain ⟨n, r, h1, h2, h3⟩ := k
  refine ⟨n + 1, r, by rw [e, h1], ?_, h3⟩
  rw [← hh]
  exact h2
theorem wp_pure {pc' : Nat} {lv' : List (Nat × Value)} {st' : List Value} (hf : ft y pc ins) (hp : re_pure (fun _ _ _ => none) (re_nl rG y) pc lv st ins = some (pc', lv', st')) (k : wp SC y d s pc' lv' st' h Q) : wp SC y d s pc lv st h Q :=
  wp_step1 k rfl (fun n => by rw [re_go.eq_def]; simp only [hf.1, hf.2, show re_pure (rO SC).1 (re_nl rG y) pc lv st ins = some (pc', lv', st') from hp])
/-- pure instructions, one behind another -/
def nb_run (y : Nat) : Nat → Nat → List (Nat × Value) → List Value → Option (Nat × List (Nat × Value) × List Value)
  | 0, pc, lv, st => some (pc, lv, st)
  | k + 1, pc, lv, st => match re_tw rG y pc with
    | some _ => none
    | none => match re_ins rG y pc with
      | none => none
      | some ins => match re_pure (fun _ _ _ => none) (re_nl rG y) pc lv st ins with
        | none => none
        | some q => nb_run y k q.1 q.2.1 q.2.2
theorem wp_run (k : Nat) {pc' : Nat} {lv' : List (Nat × Value)} {st' : List Value} (hp : nb_run y k pc lv st = some (pc', lv', st')) (K : wp SC y d s pc' lv' st' h Q) : wp SC y d s pc lv st h Q := by
  induction k generalizing pc lv st with
  | zero => cases hp; exact K
  | succ k ih =>
    unfold nb_run at hp
    split at hp
    next => cases hp
    next h1 =>
      split at hp
      next => cases hp
      next ins h2 =>
        split at hp
        next => cases hp
        next q h3 => exact wp_pure ⟨h1, h2⟩ (pc' := q.1) (lv' := q.2.1) (st' := q.2.2) h3 (ih hp)
theorem wp_gf {idx ci k a : Nat} {ty : FieldType} {fin : Nat} {vs : List Value} {v : Value} (hf : ft y pc (.getfield idx)) (hl : re_fl rG y idx = some (ci, k, ty, fin)) (hg : re_hg h a = some (ci, vs)) (hv : vs[k]? = some v) (K : wp SC y d s (pc + 3) lv (v :: st) h Q) : wp SC y d s pc lv (.ref a :: st) h Q :=
  wp_step1 K rfl (fun n => by rw [re_go.eq_def]; simp only [hf.1, hf.2, re_pure, re_hp, hl, hg, hv, if_true])
/-- what a call comes back to -/
def wp_ret (SC : List Value) (y d s pc : Nat) (lv : List (Nat × Value)) (st : List Value) (Q : Nat → Value → re_H → Prop) : Nat → Value → re_H → Prop :=
  fun k v h' => if k < 4 then wp SC y d s pc lv (if k = 0 then st else v :: st) h' Q else Q k v h'
theorem wp_pf {idx ci k a : Nat} {ty : FieldType} {fin : Nat} {vs : List Value} {v : Value} (hf : ft y pc (.putfield idx)) (hl : re_fl rG y idx = some (ci, k, ty, fin)) (hi : fin = 0 ∨ (fin = 1 ∧ re_isI rG y = true)) (hg : re_hg h a = some (ci, vs)) (hk : k < vs.length) (hv : re_fit ty v = true) (K : wp SC y d s (pc + 3) lv st (re_hw h a (ci, vs.set k v)) Q) : wp SC y d s pc lv (v :: .ref a :: st) h Q :=
  wp_step1 K rfl (fun n => by rw [re_go.eq_def]; simp only [hf.1, hf.2, re_pure, re_hp, hl, hg, hv, hk, hi, and_self, if_true])
theorem fit_i (x : Int32) : re_fit .int (.int x) = true := by simp [re_fit, narrow, fits]
theorem fit_l (x : Int64) : re_fit .long (.long x) = true := by simp [re_fit, narrow, fits]
theorem fit_o {nm : String} {v : Value} (hv : re_R v) : re_fit (.object nm) v = true := by rcases hv with rfl | ⟨a, rfl⟩ <;> simp [re_fit, narrow, fits]
theorem fit_a {t : FieldType} {v : Value} (hv : re_R v) : re_fit (.array t) v = true := by rcases hv with rfl | ⟨a, rfl⟩ <;> simp [re_fit, narrow, fits]
theorem i32_in {i n : Nat} (h1 : i < n) (h2 : i < 2147483648) : re_in (i32 i) n = true ∧ (i32 i).toNatClampNeg = i := by
  have e : (i32 i).toInt = (i : Int) := by
    rw [Int32.toInt_ofNat_of_lt h2]
  have e2 : (i32 i).toNatClampNeg = i := by
    show (i32 i).toInt.toNat = i
    rw [e]; rfl
  refine ⟨?_, e2⟩
  unfold re_in
  rw [e2]
  have h3 : ¬ i32 i < 0 := by
    rw [Int32.lt_iff_toInt_lt, e]
    show ¬ (i : Int) < 0
    omega
  simp [h3, h1]
theorem wp_ial {a i : Nat} {x : Int32} {t : Nat} {vs : List Value} {v : Value} (hf : ft y pc .iaload) (hg : re_hg h a = some (t, vs)) (ht : t = 100) (hx : x = i32 i) (hi : i < 2147483648) (hv : vs[i]? = some v) (K : wp SC y d s (pc + 1) lv (v :: st) h Q) : wp SC y d s pc lv (.int x :: .ref a :: st) h Q := by
  have hl : i < vs.length := (List.getElem?_eq_some_iff.mp hv).1
  obtain ⟨e1, e2⟩ := i32_in hl hi
  subst hx
  subst ht
  exact wp_step1 K rfl (fun n => by rw [re_go.eq_def]; simp only [hf.1, hf.2, re_pure, re_hp, hg, e1, e2, hv, and_self, if_true])
theorem wp_lal {a i : Nat} {x : Int32} {t : Nat} {vs : List Value} {v : Value} (hf : ft y pc .laload) (hg : re_hg h a = some (t, vs)) (ht : t = 101) (hx : x = i32 i) (hi : i < 2147483648) (hv : vs[i]? = some v) (K : wp SC y d s (pc + 1) lv (v :: st) h Q) : wp SC y d s pc lv (.int x :: .ref a :: st) h Q := by
  have hl : i < vs.length := (List.getElem?_eq_some_iff.mp hv).1
  obtain ⟨e1, e2⟩ := i32_in hl hi
  subst hx
  subst ht
  exact wp_step1 K rfl (fun n => by rw [re_go.eq_def]; simp only [hf.1, hf.2, re_pure, re_hp, hg, e1, e2, hv, and_self, if_true])
theorem wp_bal {a i : Nat} {x : Int32} {t : Nat} {vs : List Value} {v : Value} (hf : ft y pc .baload) (hg : re_hg h a = some (t, vs)) (ht : t = 102) (hx : x = i32 i) (hi : i < 2147483648) (hv : vs[i]? = some v) (K : wp SC y d s (pc + 1) lv (v :: st) h Q) : wp SC y d s pc lv (.int x :: .ref a :: st) h Q := by
  have hl : i < vs.length := (List.getElem?_eq_some_iff.mp hv).1
  obtain ⟨e1, e2⟩ := i32_in hl hi
  subst hx
  subst ht
  exact wp_step1 K rfl (fun n => by rw [re_go.eq_def]; simp only [hf.1, hf.2, re_pure, re_hp, hg, e1, e2, hv, and_self, if_true])
theorem wp_aal {a i : Nat} {x : Int32} {t : Nat} {vs : List Value} {v : Value} (hf : ft y pc .aaload) (hg : re_hg h a = some (t, vs)) (ht : 103 ≤ t ∧ t < 100 + re_nE rG) (hx : x = i32 i) (hi : i < 2147483648) (hv : vs[i]? = some v) (K : wp SC y d s (pc + 1) lv (v :: st) h Q) : wp SC y d s pc lv (.int x :: .ref a :: st) h Q := by
  have hl : i < vs.length := (List.getElem?_eq_some_iff.mp hv).1
  obtain ⟨e1, e2⟩ := i32_in hl hi
  subst hx
  exact wp_step1 K rfl (fun n => by rw [re_go.eq_def]; simp only [hf.1, hf.2, re_pure, re_hp, hg, ht, e1, e2, hv, and_self, if_true])
theorem wp_ias {a i : Nat} {x : Int32} {t : Nat} {vs : List Value} {z : Int32} (hf : ft y pc .iastore) (hg : re_hg h a = some (t, vs)) (ht : t = 100) (hx : x = i32 i) (hi : i < 2147483648) (hl : i < vs.length) (K : wp SC y d s (pc + 1) lv st (re_hw h a (t, vs.set i (.int z))) Q) : wp SC y d s pc lv (.int z :: .int x :: .ref a :: st) h Q := by
  obtain ⟨e1, e2⟩ := i32_in hl hi
  subst hx
  subst ht
  exact wp_step1 K rfl (fun n => by rw [re_go.eq_def]; simp only [hf.1, hf.2, re_pure, re_hp, hg, e1, e2, and_self, if_true])
theorem wp_las {a i : Nat} {x : Int32} {t : Nat} {vs : List Value} {z : Int64} (hf : ft y pc .lastore) (hg : re_hg h a = some (t, vs)) (ht : t = 101) (hx : x = i32 i) (hi : i < 2147483648) (hl : i < vs.length) (K : wp SC y d s (pc + 1) lv st (re_hw h a (t, vs.set i (.long z))) Q) : wp SC y d s pc lv (.long z :: .int x :: .ref a :: st) h Q := by
  obtain ⟨e1, e2⟩ := i32_in hl hi
  subst hx
  subst ht
  exact wp_step1 K rfl (fun n => by rw [re_go.eq_def]; simp only [hf.1, hf.2, re_pure, re_hp, hg, e1, e2, and_self, if_true])
theorem wp_bas {a i : Nat} {x : Int32} {t : Nat} {vs : List Value} {z : Int32} (hf : ft y pc .bastore) (hg : re_hg h a = some (t, vs)) (ht : t = 102) (hx : x = i32 i) (hi : i < 2147483648) (hl : i < vs.length) (K : wp SC y d s (pc + 1) lv st (re_hw h a (t, vs.set i (.int (vp_nar .boolean z)))) Q) : wp SC y d s pc lv (.int z :: .int x :: .ref a :: st) h Q := by
  obtain ⟨e1, e2⟩ := i32_in hl hi
  subst hx
  subst ht
  exact wp_step1 K rfl (fun n => by rw [re_go.eq_def]; simp only [hf.1, hf.2, re_pure, re_hp, hg, e1, e2, and_self, if_true])
theorem wp_aas {a i : Nat} {x : Int32} {t : Nat} {vs : List Value} {v : Value} (hf : ft y pc .aastore) (hg : re_hg h a = some (t, vs)) (ht : 103 ≤ t ∧ t < 100 + re_nE rG) (hx : x = i32 i) (hi : i < 2147483648) (hl : i < vs.length) (hv : v = .null ∨ ∃ (b tv : Nat) (ws : List Value), v = .ref b ∧ re_hg h b = some (tv, ws) ∧ re_ec rG (t - 100) tv = true) (K : wp SC y d s (pc + 1) lv st (re_hw h a (t, vs.set i v)) Q) : wp SC y d s pc lv (v :: .int x :: .ref a :: st) h Q := by
  obtain ⟨e1, e2⟩ := i32_in hl hi
  subst hx
  rcases hv with rfl | ⟨b, tv, ws, rfl, h1, h2⟩
  · exact wp_step1 K rfl (fun n => by rw [re_go.eq_def]; simp only [hf.1, hf.2, re_pure, re_hp, hg, ht, e1, e2, and_self, if_true])
  · exact wp_step1 K rfl (fun n => by rw [re_go.eq_def]; simp only [hf.1, hf.2, re_pure, re_hp, hg, ht, h1, h2, e1, e2, and_self, if_true])
theorem wp_alen {a t : Nat} {vs : List Value} (hf : ft y pc .arraylength) (hg : re_hg h a = some (t, vs)) (ht : 100 ≤ t ∧ t < 100 + re_nE rG) (K : wp SC y d s (pc + 1) lv (.int (i32 vs.length) :: st) h Q) : wp SC y d s pc lv (.ref a :: st) h Q :=
  wp_step1 K rfl (fun n => by rw [re_go.eq_def]; simp only [hf.1, hf.2, re_pure, re_hp, hg, ht, and_self, if_true])
/-- something is made -/
theorem wp_mk {s' pc' : Nat} {st' : List Value} {c : re_C} (hf : ft y pc ins) (h1 : re_pure (rO SC).1 (re_nl rG y) pc lv st ins = none) (h2 : re_hp (re_nE rG) (re_fl rG y) (re_ec rG) (re_isI rG y) pc st h ins = none) (h3 : re_ret (re_rt rG y) ins st = none) (h4 : re_mk (re_nw rG y) (re_an rG y) pc st h.1 ins = some (pc', st', c)) (hs : c.2.length + 2 * s' ≤ 11 + 2 * s) (hs' : s' ≤ s) (K : wp SC y d s' pc' lv st' (re_hq h c) Q) : wp SC y d s pc lv st h Q := by
  obtain ⟨n, r, k1, ⟨k2, k3, k4, k5, k6⟩, k7⟩ := K
  have k2 : h.1 + 1 ≤ r.2.2.1.1 := k2
  have k3 : h.1 + 1 + r.2.2.2.1 ≤ r.2.2.1.1 + s' := k3
  refine ⟨n + 1, re_add 1 c.2.length r, ?_, ⟨?_, ?_, ?_, k5, k6⟩, k7⟩
  · rw [re_go.eq_def]
    simp only [hf.1, hf.2, h1, h2, h3, h4, k1, Option.map_some]
  · show h.1 ≤ r.2.2.1.1
    omega
  · show h.1 + (1 + r.2.2.2.1) ≤ r.2.2.1.1 + s
    omega
  · show c.2.length + r.2.2.2.2.1 ≤ 11 * (1 + r.2.2.2.1) + 2 * s
    omega
theorem wp_new {idx ci : Nat} {vs : List Value} (hf : ft y pc (.new idx)) (hn : re_nw rG y idx = some (ci, vs)) (hc : ci < 100) (hs : vs.length ≤ 11) (K : wp SC y d s (pc + 3) lv (.ref h.1 :: st) (re_hq h (ci, vs)) Q) : wp SC y d s pc lv st h Q :=
  wp_mk (s' := s) (pc' := pc + 3) (st' := .ref h.1 :: st) (c := (ci, vs)) hf rfl rfl rfl (by simp only [re_mk, hn, hc, if_true]) (by show vs.length + _ ≤ _; omega) (Nat.le_refl _) K
theorem na_ok {n : Nat} (h2 : n * 8 ≤ 536870912) : ¬ i32 n < 0 ∧ (i32 n).toNatClampNeg = n := by
  have h3 := i32_in (i := n) (n := n + 1) (by omega) (by omega)
  have h1 := h3.1
  unfold re_in at h1
  simp only [Bool.and_eq_true, Bool.not_eq_true', decide_eq_false_iff_not] at h1
  exact ⟨h1.1, h3.2⟩
theorem wp_na {s' n j : Nat} {x : Int32} {at9 : ArrayType} {z : Value} (hf : ft y pc (.newarray at9)) (hx : x = i32 n) (hn : n * 8 ≤ 536870912) (ha : (at9 = .int ∧ j = 100 ∧ z = .int 0) ∨ (at9 = .long ∧ j = 101 ∧ z = .long 0) ∨ (at9 = .boolean ∧ j = 102 ∧ z = .int 0)) (hs : n + 2 * s' ≤ 11 + 2 * s) (hs' : s' ≤ s) (K : wp SC y d s' (pc + 2) lv (.ref h.1 :: st) (re_hq h (j, List.replicate n z)) Q) : wp SC y d s pc lv (.int x :: st) h Q := by
  subst hx
  obtain ⟨e1, e2⟩ := na_ok hn
  have e3 : n * 4 ≤ 536870912 := by omega
  rcases ha with ⟨rfl, rfl, rfl⟩ | ⟨rfl, rfl, rfl⟩ | ⟨rfl, rfl, rfl⟩
  · exact wp_mk (s' := s') (pc' := pc + 2) (st' := .ref h.1 :: st) (c := (100, List.replicate n (.int 0))) hf rfl rfl rfl (by simp only [re_mk, e1, e2, e3, not_false_eq_true, and_self, if_true]) (by show (List.replicate n _).length + _ ≤ _; rw [List.length_replicate]; omega) hs' K
  · exact wp_mk (s' := s') (pc' := pc + 2) (st' := .ref h.1 :: st) (c := (101, List.replicate n (.long 0))) hf rfl rfl rfl (by simp only [re_mk, e1, e2, hn, not_false_eq_true, and_self, if_true]) (by show (List.replicate n _).length + _ ≤ _; rw [List.length_replicate]; omega) hs' K
  · exact wp_mk (s' := s') (pc' := pc + 2) (st' := .ref h.1 :: st) (c := (102, List.replicate n (.int 0))) hf rfl rfl rfl (by simp only [re_mk, e1, e2, e3, not_false_eq_true, and_self, if_true]) (by show (List.replicate n _).length + _ ≤ _; rw [List.length_replicate]; omega) hs' K
theorem wp_ana {s' n j idx : Nat} {x : Int32} (hf : ft y pc (.anewarray idx)) (hj : re_an rG y idx = some j) (hx : x = i32 n) (hn : n * 8 ≤ 536870912) (hs : n + 2 * s' ≤ 11 + 2 * s) (hs' : s' ≤ s) (K : wp SC y d s' (pc + 3) lv (.ref h.1 :: st) (re_hq h (100 + j, List.replicate n .null)) Q) : wp SC y d s pc lv (.int x :: st) h Q := by
  subst hx
  obtain ⟨e1, e2⟩ := na_ok hn
  have e3 : n * 4 ≤ 536870912 := by omega
  exact wp_mk (s' := s') (pc' := pc + 3) (st' := .ref h.1 :: st) (c := (100 + j, List.replicate n .null)) hf rfl rfl rfl (by simp only [re_mk, hj, e1, e2, e3, not_false_eq_true, and_self, if_true]) (by show (List.replicate n _).length + _ ≤ _; rw [List.length_replicate]; omega) hs' K
/-- a constant of the pool; the script; the same reference; Math.min -/
theorem wp_cst {pc' : Nat} {v : Value} (hf : ft y pc ins) (h1 : re_pure (rO SC).1 (re_nl rG y) pc lv st ins = none) (h2 : re_hp (re_nE rG) (re_fl rG y) (re_ec rG) (re_isI rG y) pc st h ins = none) (h3 : re_ret (re_rt rG y) ins st = none) (h4 : re_mk (re_nw rG y) (re_an rG y) pc st h.1 ins = none) (h5 : re_cst (re_ks rG y) pc ins = some (pc', v)) (K : wp SC y d s pc' lv (v :: st) h Q) : wp SC y d s pc lv st h Q :=
  wp_step1 K rfl (fun n => by rw [re_go.eq_def]; simp only [hf.1, hf.2, h1, h2, h3, h4, h5])
theorem wp_acne {off : Int} {t : Nat} {u v : Value} (hf : ft y pc (.if_acmp .ne off)) (ht : re_jmp pc off = some t) (hu : re_R u) (hv : re_R v) (K1 : ¬ u = v → wp SC y d s t lv st h Q) (K2 : u = v → wp SC y d s (pc + 3) lv st h Q) : wp SC y d s pc lv (v :: u :: st) h Q := by
  have key : ∀ (b : Bool), re_seq u v = some b → (b = true → u = v) → (b = false → ¬ u = v) → wp SC y d s pc lv (v :: u :: st) h Q := by
    intro b e h1 h2
    have e6 : re_acm pc (v :: u :: st) (.if_acmp .ne off) = some (bif !b then t else pc + 3, st) := by simp only [re_acm, ht, e]
    cases b with
    | true => exact wp_step1 (K2 (h1 rfl)) rfl (fun n => by rw [re_go.eq_def]; simp only [hf.1, hf.2, re_pure, re_hp, re_ret, re_mk, re_cst, e6]; rfl)
    | false => exact wp_step1 (K1 (h2 rfl)) rfl (fun n => by rw [re_go.eq_def]; simp only [hf.1, hf.2, re_pure, re_hp, re_ret, re_mk, re_cst, e6]; rfl)
  rcases hu with rfl | ⟨i, rfl⟩ <;> rcases hv with rfl | ⟨j, rfl⟩
  · exact key true rfl (fun _ => rfl) (fun z => by cases z)
  · exact key false rfl (fun z => by cases z) (fun _ z => by cases z)
  · exact key false rfl (fun z => by cases z) (fun _ z => by cases z)
  · exact key (Nat.beq i j) rfl (fun z => by rw [Nat.eq_of_beq_eq_true z]) (fun z w => by cases w; rw [Nat.beq_refl] at z; cases z)
theorem wp_sln (hf : ft y pc .arraylength) (K : wp SC y d s (pc + 1) lv (.int (i32 SC.length) :: st) h Q) : wp SC y d s pc lv (.retAddr 2 :: st) h Q :=
  wp_step1 K rfl (fun n => by rw [re_go.eq_def]; simp only [hf.1, hf.2, re_pure, re_hp, re_ret, re_mk, re_cst, re_acm, re_ora, rO, re_scr])
theorem wp_sld {i : Nat} {x : Int32} {v : Value} (hf : ft y pc .iaload) (hx : x = i32 i) (hi : i < 2147483648) (hv : SC[i]? = some v) (K : wp SC y d s (pc + 1) lv (v :: st) h Q) : wp SC y d s pc lv (.int x :: .retAddr 2 :: st) h Q := by
  have hl : i < SC.length := (List.getElem?_eq_some_iff.mp hv).1
  obtain ⟨e1, e2⟩ := i32_in hl hi
  subst hx
  exact wp_step1 K rfl (fun n => by rw [re_go.eq_def]; simp only [hf.1, hf.2, re_pure, re_hp, re_ret, re_mk, re_cst, re_acm, re_ora, rO, re_scr, e1, e2, hv, if_true])
theorem wp_min {idx z : Nat} {a b : Int64} (hf : ft y pc (.invokestatic idx)) (hj : re_jd rG y idx = some (1, z)) (hc : re_cat st ≤ 8) (K : wp SC y d s (pc + 3) lv (.long (if b < a then b else a) :: st) h Q) : wp SC y d s pc lv (.long b :: .long a :: st) h Q := by
  obtain ⟨n, r, k1, ⟨k2, k3, k4, k5, k6⟩, k7⟩ := K
  refine ⟨n + 1, re_mx 1 23 r, ?_, ⟨k2, k3, k4, ?_, ?_⟩, k7⟩
  · rw [re_go.eq_def]
    simp only [hf.1, hf.2, re_pure, re_hp, re_ret, re_mk, re_cst, re_acm, re_ora, rO, re_scr, re_jdk, hj, hc, if_true]
    show Option.map (re_mx 1 23) (re_go rG (rO SC) n y (pc + 3) lv (.long (if b < a then b else a) :: st) h) = _
    rw [k1]
    rfl
  · show max 1 r.2.2.2.2.2.1 ≤ d + 6
    omega
  · show max 23 r.2.2.2.2.2.2 ≤ 100 * d + 200
    omega
/-- the ends -/
theorem wp_end {k : Nat} {v : Value} (hf : ft y pc ins) (h1 : re_pure (rO SC).1 (re_nl rG y) pc lv st ins = none) (h2 : re_hp (re_nE rG) (re_fl rG y) (re_ec rG) (re_isI rG y) pc st h ins = none) (h3 : re_ret (re_rt rG y) ins st = some (k, v)) (K : Q k v h) : wp SC y d s pc lv st h Q :=
  ⟨1, (k, v, h, 0, 0, 0, 0), by rw [re_go.eq_def]; simp only [hf.1, hf.2, h1, h2, h3], ⟨Nat.le_refl _, Nat.le_add_right _ _, Nat.zero_le _, Nat.zero_le _, Nat.zero_le _⟩, K⟩
theorem wp_retv (hf : ft y pc .return_) (hr : re_rt rG y = none) (K : Q 0 .null h) : wp SC y d s pc lv [] h Q :=
  wp_end hf rfl rfl (by simp only [re_ret, hr]) K
theorem wp_reti {x : Int32} (hf : ft y pc .ireturn) (hr : re_rt rG y = some .int) (K : Q 1 (.int x) h) : wp SC y d s pc lv [.int x] h Q :=
  wp_end hf rfl rfl (by simp [re_ret, hr, narrow]) K
theorem wp_retz {x : Int32} (hf : ft y pc .ireturn) (hr : re_rt rG y = some .boolean) (hx : x = 0 ∨ x = 1) (K : Q 1 (.int x) h) : wp SC y d s pc lv [.int x] h Q :=
  wp_end hf rfl rfl (by rcases hx with rfl | rfl <;> simp [re_ret, hr, narrow]) K
theorem wp_retl {x : Int64} (hf : ft y pc .lreturn) (hr : re_rt rG y = some .long) (K : Q 2 (.long x) h) : wp SC y d s pc lv [.long x] h Q :=
  wp_end hf rfl rfl (by simp only [re_ret, hr]) K
theorem wp_reta {v : Value} {nm : String} (hf : ft y pc .areturn) (hr : re_rt rG y = some (.object nm)) (hv : re_R v) (K : Q 3 v h) : wp SC y d s pc lv [v] h Q :=
  wp_end hf rfl rfl (by rcases hv with rfl | ⟨a, rfl⟩ <;> simp only [re_ret, hr]) K
theorem wp_throw {x : Nat} (hf : re_tw rG y pc = some x) (hs : 0 < s) (hc : re_cat st ≤ 100) (K : Q (4 + x) .null h) : wp SC y d s pc lv st h Q :=
  ⟨1, (4 + x, .null, h, 1, 6, 6, re_cat st + 82), by rw [re_go.eq_def]; simp only [hf], ⟨Nat.le_refl _, by show h.1 + 1 ≤ h.1 + s; omega, by show 6 ≤ 11 * 1 + 2 * s; omega, by show 6 ≤ d + 6; omega, by show re_cat st + 82 ≤ _; omega⟩, K⟩
/-- what may be null -/
theorem wp_alR {k : Nat} {pc' : Nat} {v : Value} (hf : ft y pc ins) (hi : (∃ i, ins = .aload i ∧ i = k ∧ pc' = pc + 2) ∨ (∃ i, ins = .aload_n i ∧ (i : Nat) = k ∧ pc' = pc + 1)) (hl : re_lk lv k = some v) (hv : re_R v) (K : wp SC y d s pc' lv (v :: st) h Q) : wp SC y d s pc lv st h Q := by
  rcases hi with ⟨i, rfl, rfl, rfl⟩ | ⟨i, rfl, rfl, rfl⟩ <;> rcases hv with rfl | ⟨a, rfl⟩ <;> exact wp_pure hf (by simp only [re_pure, hl]) K
theorem wp_asR {k : Nat} {pc' : Nat} {v : Value} {lv' : List (Nat × Value)} (hf : ft y pc ins) (hi : (∃ i, ins = .astore i ∧ i = k ∧ pc' = pc + 2) ∨ (∃ i, ins = .astore_n i ∧ (i : Nat) = k ∧ pc' = pc + 1)) (hn : k < re_nl rG y) (hv : re_R v) (hlv : re_s1 lv k v = lv') (K : wp SC y d s pc' lv' st h Q) : wp SC y d s pc lv (v :: st) h Q := by
  subst hlv
  rcases hi with ⟨i, rfl, rfl, rfl⟩ | ⟨i, rfl, rfl, rfl⟩ <;> rcases hv with rfl | ⟨a, rfl⟩ <;> exact wp_pure hf (by simp only [re_pure, hn, if_true]) K
theorem wp_ifn {off : Int} {t : Nat} {v : Value} (hf : ft y pc (.ifnull off)) (ht : re_jmp pc off = some t) (hv : re_R v) (K1 : v = .null → wp SC y d s t lv st h Q) (K2 : ∀ a, v = .ref a → wp SC y d s (pc + 3) lv st h Q) : wp SC y d s pc lv (v :: st) h Q := by
  rcases hv with rfl | ⟨a, rfl⟩
  · exact wp_pure hf (by simp only [re_pure, ht]) (K1 rfl)
  · exact wp_pure hf (by simp only [re_pure, ht]) (K2 a rfl)
theorem wp_ifnn {off : Int} {t : Nat} {v : Value} (hf : ft y pc (.ifnonnull off)) (ht : re_jmp pc off = some t) (hv : re_R v) (K1 : ∀ a, v = .ref a → wp SC y d s t lv st h Q) (K2 : v = .null → wp SC y d s (pc + 3) lv st h Q) : wp SC y d s pc lv (v :: st) h Q := by
  rcases hv with rfl | ⟨a, rfl⟩
  · exact wp_pure hf (by simp only [re_pure, ht]) (K2 rfl)
  · exact wp_pure hf (by simp only [re_pure, ht]) (K1 a rfl)
/-- branches -/
theorem wp_cmp {cd : Jvm.ClassFile.Cond} {off : Int} {t : Nat} {x z : Int32} (hf : ft y pc (.if_icmp cd off)) (ht : re_jmp pc off = some t) (K1 : re_icond cd x z = true → wp SC y d s t lv st h Q) (K2 : re_icond cd x z = false → wp SC y d s (pc + 3) lv st h Q) : wp SC y d s pc lv (.int z :: .int x :: st) h Q := by
  cases hb : re_icond cd x z with
  | true => exact wp_pure hf (by simp only [re_pure, ht, hb]; rfl) (K1 hb)
  | false => exact wp_pure hf (by simp only [re_pure, ht, hb]; rfl) (K2 hb)
theorem wp_if {cd : Jvm.ClassFile.Cond} {off : Int} {t : Nat} {x : Int32} (hf : ft y pc (.ifCond cd off)) (ht : re_jmp pc off = some t) (K1 : re_icond cd x 0 = true → wp SC y d s t lv st h Q) (K2 : re_icond cd x 0 = false → wp SC y d s (pc + 3) lv st h Q) : wp SC y d s pc lv (.int x :: st) h Q := by
  cases hb : re_icond cd x 0 with
  | true => exact wp_pure hf (by simp only [re_pure, ht, hb]; rfl) (K1 hb)
  | false => exact wp_pure hf (by simp only [re_pure, ht, hb]; rfl) (K2 hb)
theorem wp_tsd {df lo hi : Int} {offs : Array Int} {t : Nat} {x : Int32} (hf : ft y pc (.tableswitch df lo hi offs)) (ht : re_jmp pc df = some t) (hx : x.toInt < lo ∨ hi < x.toInt) (K : wp SC y d s t lv st h Q) : wp SC y d s pc lv (.int x :: st) h Q :=
  wp_pure hf (by simp only [re_pure, hx, if_true, ht]) K
/-- calls -/
theorem wp_call {s1 s2 d' y' : Nat} {args rest : List Value} (hd : d = d' + 1) (hs : s1 + s2 ≤ s) (hml : re_nl rG y' ≤ 80) (hh : re_hh rG y = [])
    (e : ∀ (n : Nat) (a : re_Res), re_go rG (rO SC) n y' 0 (lv_args 0 args) [] h = some a → re_go rG (rO SC) (n + 1) y pc lv st h = (if a.1 < 4 then (re_go rG (rO SC) n y (pc + 3) lv (re_vl a rest) a.2.2.1).map (re_aft (re_nl rG y') a) else some (re_aft (re_nl rG y') a (a.1, a.2.1, a.2.2.1, 0, 0, 0, 0))))
    (K : wp SC y' d' s1 0 (lv_args 0 args) [] h (wp_ret SC y d s2 (pc + 3) lv rest Q)) : wp SC y d s pc lv st h Q := by
  obtain ⟨n, a, k1, ⟨k2, k3, k4, k5, k6⟩, k7⟩ := K
  subst hd
  unfold wp_ret at k7
  split at k7
  next h4 =>
    obtain ⟨m, r, j1, ⟨j2, j3, j4, j5, j6⟩, j7⟩ := k7
    have k1' := re_more n (max n m) y' 0 _ _ [] h a (Nat.le_max_left _ _) (fun i v z => z) k1
    have j1' := re_more m (max n m) y (pc + 3) _ lv _ _ r (Nat.le_max_right _ _) (fun i v z => z) j1
    refine ⟨max n m + 1, re_aft (re_nl rG y') a r, ?_, ⟨?_, ?_, ?_, ?_, ?_⟩, j7⟩
    · rw [e _ a k1', if_pos h4]
      show Option.map _ (re_go rG (rO SC) (max n m) y (pc + 3) lv (re_vl a rest) a.2.2.1) = _
      unfold re_vl
      rw [j1']
      rfl
    · show h.1 ≤ r.2.2.1.1
      omega
    · show h.1 + (a.2.2.2.1 + r.2.2.2.1) ≤ r.2.2.1.1 + s
      omega
    · show a.2.2.2.2.1 + r.2.2.2.2.1 ≤ 11 * (a.2.2.2.1 + r.2.2.2.1) + 2 * s
      omega
    · show max (a.2.2.2.2.2.1 + 1) r.2.2.2.2.2.1 ≤ d' + 1 + 6
      omega
    · show max (8 + (re_nl rG y' + 11) + a.2.2.2.2.2.2) r.2.2.2.2.2.2 ≤ 100 * (d' + 1) + 200
      omega
  next h4 =>
    refine ⟨n + 1, re_aft (re_nl rG y') a (a.1, a.2.1, a.2.2.1, 0, 0, 0, 0), ?_, ⟨?_, ?_, ?_, ?_, ?_⟩, k7⟩
    · rw [e _ a k1, if_neg h4]
    · exact k2
    · show h.1 + (a.2.2.2.1 + 0) ≤ a.2.2.1.1 + s
      omega
    · show a.2.2.2.2.1 + 0 ≤ 11 * (a.2.2.2.1 + 0) + 2 * s
      omega
    · show max (a.2.2.2.2.2.1 + 1) 0 ≤ d' + 1 + 6
      omega
    · show max (8 + (re_nl rG y' + 11) + a.2.2.2.2.2.2) 0 ≤ 100 * (d' + 1) + 200
      omega
theorem wp_callS {s1 s2 d' y' k idx : Nat} {ar rest : List Value} (hf : ft y pc (.invokestatic idx)) (hc : re_cl rG y idx = some (k, y', ar.length)) (hk : k = 0 ∨ k = 4 ∨ k = 8) (hjd : re_jd rG y idx = none) (hr : re_cat rest ≤ 8) (hn : re_cat ar.reverse ≤ re_nl rG y') (hml : re_nl rG y' ≤ 80) (hh : re_hh rG y = []) (hd : d = d' + 1) (hs : s1 + s2 ≤ s)
    (K : wp SC y' d' s1 0 (lv_args 0 ar.reverse) [] h (wp_ret SC y d s2 (pc + 3) lv rest Q)) : wp SC y d s pc lv (ar ++ rest) h Q := by
  refine wp_call hd hs hml hh (fun n a ha => ?_) K
  have e1 : (ar ++ rest).take ar.length = ar := by simp
  have e2 : (ar ++ rest).drop ar.length = rest := by simp
  rw [re_go.eq_def]
  rcases hk with rfl | rfl | rfl <;> simp [hf.1, hf.2, re_pure, re_hp, re_ret, re_mk, re_cst, re_acm, re_ora, rO, re_scr, re_jdk, hjd, re_inv, hc, hr, hn, hh, re_hf] <;> (rw [show re_go rG (fun _ _ _ => none, fun _ _ _ => none, SC, fun _ _ _ => none) n y' 0 (lv_args 0 ar.reverse) [] h = some a from ha])
theorem wp_callV {s1 s2 d' y' k idx i t : Nat} {vs : List Value} {ar rest : List Value} (hf : ft y pc (.invokevirtual idx)) (hc : re_cl rG y idx = some (k, y', ar.length)) (hk : k = 1 ∨ k = 5) (hr : re_cat rest ≤ 8) (hn : re_cat (.ref i :: ar.reverse) ≤ re_nl rG y') (hml : re_nl rG y' ≤ 80) (hh : re_hh rG y = []) (hg : re_hg h i = some (t, vs)) (ht : t = re_ct rG y') (hd : d = d' + 1) (hs : s1 + s2 ≤ s)
    (K : wp SC y' d' s1 0 (lv_args 0 (.ref i :: ar.reverse)) [] h (wp_ret SC y d s2 (pc + 3) lv rest Q)) : wp SC y d s pc lv (ar ++ .ref i :: rest) h Q := by
  refine wp_call hd hs hml hh (fun n a ha => ?_) K
  subst ht
  rw [re_go.eq_def]
  rcases hk with rfl | rfl <;> simp [hf.1, hf.2, re_pure, re_hp, re_ret, re_mk, re_cst, re_acm, re_ora, rO, re_scr, re_jdk, re_inv, hc, hr, hn, hh, hg, re_hf] <;> (rw [show re_go rG (fun _ _ _ => none, fun _ _ _ => none, SC, fun _ _ _ => none) n y' 0 (lv_args 0 (.ref i :: ar.reverse)) [] h = some a from ha])
theorem wp_callI {s1 s2 d' y' k idx i t : Nat} {vs : List Value} {ar rest : List Value} (hf : ft y pc (.invokespecial idx)) (hc : re_cl rG y idx = some (k, y', ar.length)) (hk : k = 2 ∨ k = 6) (hr : re_cat rest ≤ 8) (hn : re_cat (.ref i :: ar.reverse) ≤ re_nl rG y') (hml : re_nl rG y' ≤ 80) (hh : re_hh rG y = []) (hg : re_hg h i = some (t, vs)) (ht : t = re_ct rG y') (hd : d = d' + 1) (hs : s1 + s2 ≤ s)
    (K : wp SC y' d' s1 0 (lv_args 0 (.ref i :: ar.reverse)) [] h (wp_ret SC y d s2 (pc + 3) lv rest Q)) : wp SC y d s pc lv (ar ++ .ref i :: rest) h Q := by
  refine wp_call hd hs hml hh (fun n a ha => ?_) K
  subst ht
  rw [re_go.eq_def]
  rcases hk with rfl | rfl <;> simp [hf.1, hf.2, re_pure, re_hp, re_ret, re_mk, re_cst, re_acm, re_ora, rO, re_scr, re_jdk, re_inv, hc, hr, hn, hh, hg, re_hf] <;> (rw [show re_go rG (fun _ _ _ => none, fun _ _ _ => none, SC, fun _ _ _ => none) n y' 0 (lv_args 0 (.ref i :: ar.reverse)) [] h = some a from ha])
theorem wp_obj {idx i z na : Nat} (hf : ft y pc (.invokespecial idx)) (hc : re_cl rG y idx = some (3, z, na)) (hr : re_cat st ≤ 8) (K : wp SC y d s (pc + 3) lv st h Q) : wp SC y d s pc lv (.ref i :: st) h Q := by
  obtain ⟨n, r, k1, ⟨k2, k3, k4, k5, k6⟩, k7⟩ := K
  refine ⟨n + 1, re_mx 1 20 r, ?_, ⟨k2, k3, k4, ?_, ?_⟩, k7⟩
  · rw [re_go.eq_def]
    simp only [hf.1, hf.2, re_pure, re_hp, re_ret, re_mk, re_cst, re_acm, re_ora, rO, re_scr, re_jdk, re_inv, hc, hr, if_true]
    show Option.map (re_mx 1 20) (re_go rG (rO SC) n y (pc + 3) lv st h) = _
    rw [k1]
    rfl
  · show max 1 r.2.2.2.2.2.1 ≤ d + 6
    omega
  · show max 20 r.2.2.2.2.2.2 ≤ 100 * d + 200
    omega
end WP
