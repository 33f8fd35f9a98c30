/-! Result. -/
/-- a result: error, runs, what is kept, the code, the inputs and the seed of its run, what was seen -/
abbrev Rs : Type := Int32 × Nat × Cd × Cd × (Nat → Int64) × Int32 × (Nat → Option Tr)
abbrev rK (R : Rs) : Cd := R.2.2.1
abbrev rC (R : Rs) : Cd := R.2.2.2.1
abbrev rI (R : Rs) : Nat → Int64 := R.2.2.2.2.1
abbrev rS (R : Rs) : Int32 := R.2.2.2.2.2.1
abbrev rW (R : Rs) : Nat → Option Tr := R.2.2.2.2.2.2
def rsc (r : Nat) (err : Int32) (runs cnt : Nat) (seed : Int32) : re_C := (5, [.int err, .int (i32 runs), .int (i32 cnt), .ref (r + 1), .ref (r + 2), .ref (r + 3), .ref (r + 4), .ref (r + 7), .int seed, .ref (r + 8), .ref (r + 9)])
/-- what is kept lies in the rows -/
def kpt (h : re_H) (E : Ev) (K : Cd) (ns nm fs : List Value) : Prop := K.length ≤ 4 ∧ ns.length = 4 ∧ nm.length = 4 ∧ fs.length = 4 ∧ (∀ (i n : Nat) (v : Tr), K[i]? = some (n, v) → n < 16 ∧ ns[i]? = some (.int (i32 n)) ∧ ∃ (nu : Int64) (f : Value), nm[i]? = some (.long nu) ∧ fs[i]? = some f ∧ vl h E v nu f) ∧ ∀ i, K.length ≤ i → i < 4 → fs[i]? = some .null
/-- what was seen is of functions that are numbered -/
def sok (E : Ev) (W : Nat → Option Tr) : Prop := ∀ i v, W i = some v → isC v = true → stp v < E.2.1
def rs (h : re_H) (E : Ev) (r : Nat) (R : Rs) : Prop := ∃ (ns nm fs : List Value) (ms : Nat → Int64), re_hg h r = some (rsc r R.1 R.2.1 (rK R).length (rS R)) ∧ re_hg h (r + 1) = some (100, ns) ∧ re_hg h (r + 2) = some (101, nm) ∧ re_hg h (r + 3) = some (106, fs) ∧ kpt h E (rK R) ns nm fs ∧ cd h (r + 4) (rC R) ∧ re_hg h (r + 7) = some (101, lst 4 (fun i => .long (rI R i))) ∧
  re_hg h (r + 8) = some (100, lst 16 (fun i => .int (i32 (knd (rW R i))))) ∧ re_hg h (r + 9) = some (101, lst 16 (fun i => .long (ms i))) ∧ sok E (rW R) ∧ ∀ i v, rW R i = some v → ms i = mrk E (some v)
def inR (r a : Nat) : Prop := r ≤ a ∧ a ≤ r + 9
theorem knd_le (o : Option Tr) : knd o ≤ 2 := by unfold knd; split; omega; split <;> omega
theorem kpt_keep {h h' : re_H} {E E' : Ev} (hk : ∀ x, E.2.2.1 x → re_hg h' x = re_hg h x) (hx : xk h h') (he : eLe E E') {K : Cd} {ns nm fs : List Value} (z : kpt h E K ns nm fs) : kpt h' E' K ns nm fs := by
  obtain ⟨z1, z2, z3, z4, z5, z6⟩ := z
  refine ⟨z1, z2, z3, z4, fun i n v hi => ?_, z6⟩
  obtain ⟨y1, y2, nu, f, y3, y4, y5⟩ := z5 i n v hi
  exact ⟨y1, y2, nu, f, y3, y4, vl_keep hk hx he y5⟩
theorem knd_s (v : Tr) : knd (some v) = if isC v then 2 else 1 := rfl
theorem mrk_s (E : Ev) (v : Tr) : mrk E (some v) = if isC v then sg E (stp v) else num v := rfl
theorem smv_s (u v : Tr) : smv (some u) (some v) = if isC u then isC v && stp u == stp v else !isC v && num u == num v := rfl
theorem mrk_le {E E' : Ev} (he : eLe E E') {v : Tr} (hs : isC v = true → stp v < E.2.1) : mrk E' (some v) = mrk E (some v) := by
  rw [mrk_s, mrk_s]
  cases hc : isC v
  · rfl
  · simp only [if_true]; unfold sg; rw [he.1 _ (hs hc)]
/-- the cells of a result stay, its nodes too -/
theorem rs_fr {h h' : re_H} {E E' : Ev} {r : Nat} {R : Rs} (e : ∀ a, inR r a → re_hg h' a = re_hg h a) (hk : ∀ x, E.2.2.1 x → re_hg h' x = re_hg h x) (hx : xk h h') (he : eLe E E') (z : rs h E r R) : rs h' E' r R := by
  obtain ⟨ns, nm, fs, ms, z1, z2, z3, z4, z5, z6, z7, z8, z9, z10, z11⟩ := z
  have e' : ∀ k, k ≤ 9 → re_hg h' (r + k) = re_hg h (r + k) := fun k hk => e _ ⟨by omega, by omega⟩
  refine ⟨ns, nm, fs, ms, by rw [show re_hg h' r = re_hg h r from e' 0 (by omega)]; exact z1, by rw [e' 1 (by omega)]; exact z2, by rw [e' 2 (by omega)]; exact z3, by rw [e' 3 (by omega)]; exact z4, kpt_keep hk hx he z5, cd_fr (fun a h1 h2 => e a ⟨by omega, by omega⟩) hx z6, by rw [e' 7 (by omega)]; exact z7, by rw [e' 8 (by omega)]; exact z8, by rw [e' 9 (by omega)]; exact z9, fun i v hi hc => Nat.lt_of_lt_of_le (z10 i v hi hc) he.2.1, fun i v hi => ?_⟩
  rw [z11 i v hi, mrk_le he (z10 i v hi)]
theorem rs_mo {S : Nat → Prop} {n : Nat} {h h' : re_H} {E E' : Ev} {r : Nat} {R : Rs} (m : mo S n h h') (hr : ∀ a, inR r a → ¬ S a) (hn : ∀ x, E.2.2.1 x → ¬ S x) (hl : ∀ x, E.2.2.1 x → x < h.1) (ht : r + 9 < h.1) (he : eLe E E') (z : rs h E r R) : rs h' E' r R :=
  rs_fr (fun a ha => m.1.2 a (by have := ha.2; omega) (hr a ha)) (fun x hx => m.1.2 x (hl x hx) (hn x hx)) m.2.1 he z
theorem rs_top {h : re_H} {E : Ev} {r : Nat} {R : Rs} (z : rs h E r R) : r + 9 < h.1 := by
  obtain ⟨ns, nm, fs, ms, z1, z2, z3, z4, z5, z6, z7, z8, z9, z10, z11⟩ := z
  exact hg_lt z9
def rup (R : Rs) (err : Int32) (K : Cd) : Rs := (err, R.2.1, K, R.2.2.2)
/-- the first kept of a name -/
theorem kpt_at {h : re_H} {E : Ev} {K : Cd} {ns nm fs : List Value} (z : kpt h E K ns nm fs) {nm' i : Nat} (hp : pof nm' K = some i) : ∃ (v : Tr) (nu : Int64) (f : Value), lkp nm' K = some v ∧ nm[i]? = some (.long nu) ∧ fs[i]? = some f ∧ vl h E v nu f ∧ i < 4 := by
  obtain ⟨h1, v, h2⟩ := pof_some hp
  obtain ⟨y1, y2, nu, f, y3, y4, y5⟩ := z.2.2.2.2.1 i nm' v h2
  exact ⟨v, nu, f, by rw [lkp_pof, hp]; simp [h2], y3, y4, y5, by have := z.1; omega⟩
theorem lkp_none {nm : Nat} {K : Cd} (hp : pof nm K = none) : lkp nm K = none := by rw [lkp_pof, hp]; rfl
section RW
variable {SC : List Value} {d q : Nat} {h : re_H} {Q : Nat → Value → re_H → Prop} {r : Nat} {R : Rs} {E : Ev}
theorem c323 {nm : Nat} (hn : nm < 16) (z : rs h E r R) (K : Q 1 (.int (oI (pof nm (rK R)))) h) : wp SC 323 d q 0 [(0, .ref r), (1, .int (i32 nm))] [] h Q := by
  obtain ⟨ns, nms, fs, ms, z1, z2, z3, z4, z5, -⟩ := z
  have hl := z5.1
  have loop : ∀ k i : Nat, i + k = (rK R).length → (pof nm (rK R) = (pof nm ((rK R).drop i)).map (· + i)) → wp SC 323 d q 2 [(0, .ref r), (1, .int (i32 nm)), (2, .int (i32 i))] [] h Q := by
    intro k
    induction k with
    | zero =>
      intro i hi he
      refine B323_2 ⟨_, z1, rfl⟩ (fun _ => B323_33 ?_) (fun g => absurd ((i3_lt (by omega) (by omega)).mp g) (by omega))
      rw [he, dropn (by omega)] at K
      exact K
    | succ k ih =>
      intro i hi he
      obtain ⟨⟨n, v⟩, hq⟩ := getl (C := rK R) (i := i) (by omega)
      obtain ⟨g2, g1, -⟩ := z5.2.2.2.2.1 i n v hq
      refine B323_2 ⟨_, z1, rfl⟩ (fun g => absurd ((i3_lt (by omega) (by omega)).mpr (by omega)) g) (fun _ => ?_)
      refine B323_10 (fun g => absurd ((i3_lt (by omega) (by omega)).mpr (by omega)) g) (fun _ => ?_)
      rw [dropc hq] at he
      refine B323_15 ⟨_, z1, rfl⟩ ⟨_, i, z2, rfl, by omega, g1⟩ (fun g => B323_27 ?_) (fun g => B323_25 ?_)
      · rw [i3_add]
        refine ih (i + 1) (by omega) ?_
        rw [he, pof_cons, if_neg (fun z => g (by rw [← z]))]
        rw [Option.map_map]
        congr 1
        funext x
        show x + 1 + i = x + (i + 1)
        omega
      · rw [he, pof_cons, if_pos ((i3_eq (by omega) (by omega)).mp g), Option.map_some, Nat.zero_add] at K
        exact K
  refine B323_0 (loop (rK R).length 0 (by omega) ?_)
  simp
theorem rs_hd (z : rs h E r R) : re_hg h r = some (rsc r R.1 R.2.1 (rK R).length (rS R)) := by
  obtain ⟨ns, nms, fs, ms, z1, -⟩ := z
  exact z1
theorem c322 {nm : Nat} (hn : nm < 16) (z : rs h E r R) (K : Q 1 (.int (i32 (knd (lkp nm (rK R))))) h) : wp SC 322 (d + 1) q 0 [(0, .ref r), (1, .int (i32 nm))] [] h Q := by
  have z0 := z
  obtain ⟨ns, nms, fs, ms, z1, z2, z3, z4, z5, -⟩ := z
  refine B322_0 z1 rfl (c323 hn z0 (ret1 ?_))
  cases hp : pof nm (rK R) with
  | none =>
    refine B322_5 (fun g => absurd (show (-1 : Int32) < 0 by decide) g) (fun _ => B322_10 ?_)
    rw [lkp_none hp] at K
    exact K
  | some i =>
    obtain ⟨v, nu, f, y1, y2, y3, y4, y5⟩ := kpt_at z5 hp
    rw [y1] at K
    refine B322_5 (fun _ => ?_) (fun g => absurd g (i3_neg (by omega)))
    rcases vl_cases y4 with ⟨rfl, rfl⟩ | ⟨st, rid, code, env, rfl, y6⟩
    · exact B322_12 ⟨_, z1, rfl⟩ (Or.inl rfl) ⟨_, i, z4, rfl, by omega, y3⟩ (fun _ => B322_21 (B322_26 K)) (fun b hb => by cases hb)
    · rcases nd_R y6 with rfl | ⟨x, rfl⟩
      · exact absurd (nd_null y6) (fun w => by cases w)
      · exact B322_12 ⟨_, z1, rfl⟩ (Or.inr ⟨x, rfl⟩) ⟨_, i, z4, rfl, by omega, y3⟩ (fun hb => by cases hb) (fun b _ => B322_25 (B322_26 K))
theorem c324 {nm : Nat} (hn : nm < 16) (z : rs h E r R) (K : Q 2 (.long (mrk E (lkp nm (rK R)))) h) : wp SC 324 (d + 1) q 0 [(0, .ref r), (1, .int (i32 nm))] [] h Q := by
  have z0 := z
  obtain ⟨ns, nms, fs, ms, z1, z2, z3, z4, z5, -⟩ := z
  refine B324_0 z1 rfl (c323 hn z0 (ret1 ?_))
  cases hp : pof nm (rK R) with
  | none =>
    refine B324_5 (fun g => absurd (show (-1 : Int32) < 0 by decide) g) (fun _ => B324_10 ?_)
    rw [lkp_none hp] at K
    exact K
  | some i =>
    obtain ⟨v, nu, f, y1, y2, y3, y4, y5⟩ := kpt_at z5 hp
    rw [y1] at K
    refine B324_5 (fun _ => ?_) (fun g => absurd g (i3_neg (by omega)))
    rcases vl_cases y4 with ⟨rfl, rfl⟩ | ⟨st, rid, code, env, rfl, y6⟩
    · exact B324_12 ⟨_, z1, rfl⟩ (Or.inl rfl) ⟨_, i, z4, rfl, by omega, y3⟩ (fun _ => B324_21 ⟨_, z1, rfl⟩ ⟨_, i, z3, rfl, by omega, y2⟩ (B324_39 K)) (fun b hb => by cases hb)
    · obtain ⟨x, c0, nm', c4, c5, c6, c7, rfl, g1, g2, g3, g4, g5, g6, g7⟩ := nd_C.mp y6
      exact B324_12 ⟨_, z1, rfl⟩ (Or.inr ⟨x, rfl⟩) ⟨_, i, z4, rfl, by omega, y3⟩ (fun hb => by cases hb) (fun b _ => B324_30 ⟨_, z1, rfl⟩ (Or.inr ⟨x, rfl⟩) ⟨_, i, z4, rfl, by omega, y3⟩ rfl ⟨_, g3, rfl⟩ (B324_39 K))
theorem c330 {nm : Nat} (hn : nm < 16) (z : rs h E r R) (K : ∀ f : Value, (lkp nm (rK R) = none ∧ f = .null) ∨ (∃ v nu, lkp nm (rK R) = some v ∧ vl h E v nu f) → Q 3 f h) : wp SC 330 (d + 1) q 0 [(0, .ref r), (1, .int (i32 nm))] [] h Q := by
  have z0 := z
  obtain ⟨ns, nms, fs, ms, z1, z2, z3, z4, z5, -⟩ := z
  refine B330_0 z1 rfl (c323 hn z0 (ret1 ?_))
  cases hp : pof nm (rK R) with
  | none =>
    refine B330_5 (fun g => absurd (show (-1 : Int32) < 0 by decide) g) (fun _ => B330_10 (B330_20 (Or.inl rfl) (K _ (Or.inl ⟨lkp_none hp, rfl⟩))))
  | some i =>
    obtain ⟨v, nu, f, y1, y2, y3, y4, y5⟩ := kpt_at z5 hp
    refine B330_5 (fun _ => ?_) (fun g => absurd g (i3_neg (by omega)))
    exact B330_14 ⟨_, z1, rfl⟩ (vl_R y4) ⟨_, i, z4, rfl, by omega, y3⟩ (B330_20 (vl_R y4) (K _ (Or.inr ⟨v, nu, y1, y4⟩)))
/-- numbers of functions, told apart -/
def eInj (E : Ev) : Prop := ∀ s t, s < E.2.1 → t < E.2.1 → sg E s = sg E t → s = t
theorem smv_mrk {E : Ev} (hi : eInj E) {u v : Option Tr} (hu : ∀ t, u = some t → isC t = true → stp t < E.2.1) (hv : ∀ t, v = some t → isC t = true → stp t < E.2.1) : smv u v = (decide (knd u = knd v) && (decide (knd v = 0) || decide (mrk E u = mrk E v))) := by
  cases u with
  | none =>
    cases v with
    | none => rfl
    | some v => rw [show smv none (some v) = false from rfl, show knd none = 0 from rfl, knd_s]; cases isC v <;> simp
  | some u =>
    cases v with
    | none => rw [show smv (some u) none = false from rfl, show knd none = 0 from rfl, knd_s]; cases isC u <;> simp
    | some v =>
      rw [smv_s, knd_s, knd_s, mrk_s, mrk_s]
      cases hcu : isC u <;> cases hcv : isC v
      · by_cases h : num u = num v
        · simp [h]
        · simp [h]
      · simp
      · simp
      · have e : (stp u == stp v) = decide (sg E (stp u) = sg E (stp v)) := by
          by_cases h : stp u = stp v
          · rw [h]; simp
          · rw [decide_eq_false (fun y => h (hi _ _ (hu u rfl hcu) (hv v rfl hcv) y)), beq_eq_false_iff_ne.mpr h]
        simp [e]
theorem c325 (hi : eInj E) {nm : Nat} (hn : nm < 16) {v : Option Tr} (hv : ∀ t, v = some t → isC t = true → stp t < E.2.1) (z : rs h E r R) (K : Q 1 (.int (ib (smv (rW R nm) v))) h) : wp SC 325 d q 0 [(0, .ref r), (1, .int (i32 nm)), (2, .int (i32 (knd v))), (3, .long (mrk E v))] [] h Q := by
  obtain ⟨ns, nms, fs, ms, z1, z2, z3, z4, z5, z6, z7, z8, z9, z10, z11⟩ := z
  rw [smv_mrk hi (fun t ht hc => z10 nm t ht hc) hv] at K
  have k1 := knd_le (rW R nm)
  have k2 := knd_le v
  refine B325_0 ⟨_, z1, rfl⟩ ⟨_, nm, z8, rfl, by omega, lst_get _ hn⟩ (fun g => B325_29 (B325_30 (Or.inl rfl) ?_)) (fun g => ?_)
  · rw [decide_eq_false (fun y => g (by rw [y]))] at K
    exact K
  · have e1 := (i3_eq (by omega) (by omega)).mp g
    rw [decide_eq_true e1] at K
    refine B325_10 (fun g => B325_25 (B325_30 (Or.inr rfl) ?_)) (fun g => ?_)
    · rw [decide_eq_true ((i3_zero (by omega)).mp g)] at K
      exact K
    · have e2 : ¬ knd v = 0 := fun y => g (by rw [y]; rfl)
      rw [decide_eq_false e2] at K
      obtain ⟨t, ht⟩ : ∃ t, rW R nm = some t := by
        cases hw : rW R nm with
        | none => rw [hw] at e1; exact absurd e1.symm e2
        | some t => exact ⟨t, rfl⟩
      have e3 : ms nm = mrk E (rW R nm) := by rw [ht]; exact z11 nm t ht
      refine B325_14 ⟨_, z1, rfl⟩ ⟨_, nm, z9, rfl, by omega, lst_get _ hn⟩ (fun g => B325_29 (B325_30 (Or.inl rfl) ?_)) (fun g => B325_25 (B325_30 (Or.inr rfl) ?_))
      · rw [decide_eq_false (fun y => g (by rw [e3, y]))] at K
        exact K
      · rw [decide_eq_true (by rw [← e3, g])] at K
        exact K
end RW
