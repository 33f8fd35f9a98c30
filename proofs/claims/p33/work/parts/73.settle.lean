/-! Whose runs what is kept leads to; settling. -/
theorem wE_E {s w : Nat} {n : Int64} {a b c : Tr} : wE (tE s w n a b c) = true ↔ (s < 9 ∧ w < 16) ∧ wE a = true ∧ wE b = true ∧ wE c = true := by
  show ((0 : Nat) == 0 && (1 : Nat) == 1 && ((0, 0, 0) : Nat × Nat × Int64) == (0, 0, 0) && decide (s < 9) && decide (w < 16) && wE a && wE b && wE c) = true ↔ _
  simp [and_assoc]
theorem wE_cases {e : Tr} (h : wE e = true) : e = .leaf ∨ ∃ s w n a b c, e = tE s w n a b c ∧ s < 9 ∧ w < 16 ∧ wE a = true ∧ wE b = true ∧ wE c = true := by
  match e, h with
  | .leaf, _ => exact Or.inl rfl
  | .inner k l u a (.inner k2 l2 u2 b c), h =>
    obtain ⟨l1, l3, l4⟩ := l
    unfold wE at h
    simp only [Bool.and_eq_true, beq_iff_eq, decide_eq_true_eq] at h
    obtain ⟨⟨⟨⟨⟨⟨⟨h1, h2⟩, h3⟩, h4⟩, h5⟩, h6⟩, h7⟩, h8⟩ := h
    subst h1; subst h2; subst h3
    exact Or.inr ⟨l1, l3, l4, a, b, c, rfl, h4, h5, h6, h7, h8⟩
theorem ex_wE {h : re_H} : ∀ {e : Tr} {v : Value}, ex h e v → wE e = true
  | .leaf, _, _ => rfl
  | .inner _ _ _ _ .leaf, _, z => absurd z id
  | .inner k l u a (.inner k2 l2 u2 b c), v, z => by
    obtain ⟨⟨rfl, rfl, rfl, h1, h2⟩, x, va, vb, vc, rfl, h3, h4, h5, h6⟩ := z
    exact wE_E.mpr ⟨⟨h1, h2⟩, ex_wE h4, ex_wE h5, ex_wE h6⟩
theorem rdt_wE {r : Nat} : ∀ {e : Tr}, wE e = true → ¬ rdt e r
  | .leaf, _, y => y
  | .inner _ _ _ _ .leaf, h, _ => by cases h
  | .inner k l u a (.inner k2 l2 u2 b c), h, y => by
    unfold wE at h
    simp only [Bool.and_eq_true, beq_iff_eq, decide_eq_true_eq] at h
    obtain ⟨⟨⟨⟨⟨⟨⟨h1, h2⟩, h3⟩, h4⟩, h5⟩, h6⟩, h7⟩, h8⟩ := h
    rcases y with y | y | y | y | y
    · omega
    · exact rdt_wE h6 y
    · omega
    · exact rdt_wE h7 y
    · exact rdt_wE h8 y
section RI
variable {D : Nat → Prop}
def rP (D : Nat → Prop) (t : Tr) : Prop := ∀ r, rdt t r → D r
theorem rP_lku {n : Nat} : ∀ {s v : Tr}, rP D s → lku n s = some v → rP D v
  | .leaf, v, _, h => by cases h
  | .inner k l u a b, v, hs, h => by
    unfold lku at h
    split at h
    · cases h; exact fun r y => hs r (Or.inr (Or.inl y))
    · exact rP_lku (s := b) (fun r y => hs r (Or.inr (Or.inr y))) h
theorem rP_pt {t : Tr} (h : rP D t) : rP D (pa t) ∧ rP D (pb t) ∧ rP D (pc t) ∧ rP D (pd t) := by
  match t, h with
  | .leaf, _ => exact ⟨fun r y => absurd y id, fun r y => absurd y id, fun r y => absurd y id, fun r y => absurd y id⟩
  | .inner k l u a .leaf, h => exact ⟨fun r y => h r (Or.inr (Or.inl y)), fun r y => absurd y id, fun r y => absurd y id, fun r y => absurd y id⟩
  | .inner k l u a (.inner k2 l2 u2 b c), h => exact ⟨fun r y => h r (Or.inr (Or.inl y)), fun r y => h r (Or.inr (Or.inr (Or.inr (Or.inl y)))), fun r y => h r (Or.inr (Or.inr (Or.inr (Or.inr y)))), fun r y => h r (Or.inr (Or.inr y))⟩
def eqP (G : Tr → Prop) (t t' : Tr) : Prop := t = t' ∧ G t
theorem lrw_rP {I : Nat → Int64} {sd : Int32} {rid B : Nat} (hr : D rid) : lrw I I sd sd rid rid B B (eqP (rP D)) (eqP (rP D)) (eqP (rP D)) := by
  refine ⟨?_, fun _ _ h _ => by rw [h.1], fun _ _ _ _ => rfl, fun n => ⟨rfl, fun r y => ?_⟩, fun _ _ h => ⟨by rw [h.1], fun _ => by rw [h.1]⟩, ?_, ?_, ?_, ?_⟩
  · rintro e _ ⟨rfl, h⟩
    obtain ⟨h1, h2, h3, -⟩ := rP_pt h
    exact ⟨rfl, rfl, rfl, rfl, ⟨rfl, h1⟩, ⟨rfl, h2⟩, ⟨rfl, h3⟩⟩
  · rcases y with y | y | y
    · omega
    · exact absurd y id
    · exact absurd y id
  · rintro e _ ⟨rfl, h⟩ _
    obtain ⟨h1, h2, h3, h4⟩ := rP_pt h
    exact ⟨⟨rfl, h1⟩, ⟨rfl, h4⟩⟩
  · rintro e _ s _ k ⟨rfl, h⟩ ⟨rfl, h'⟩ _
    refine ⟨rfl, fun r y => ?_⟩
    rcases y with y | y | y
    · rw [← y.2]; exact hr
    · exact h r y
    · exact h' r y
  · rintro n v _ s _ ⟨rfl, h⟩ ⟨rfl, h'⟩
    refine ⟨rfl, fun r y => ?_⟩
    rcases y with y | y | y
    · rw [← y.2]; exact hr
    · exact h r y
    · exact h' r y
  · rintro n s _ ⟨rfl, h⟩
    cases hv : lku n s with
    | none => exact Or.inl ⟨rfl, rfl⟩
    | some v => exact Or.inr ⟨v, v, rfl, rfl, rfl, rP_lku h hv⟩
theorem lK_rf {RV : Tr → Tr → Prop} : ∀ {C : Cd}, (∀ n e, (n, e) ∈ C → RV e e) → lK RV C C
  | [], _ => trivial
  | q :: r, h => ⟨⟨rfl, h q.1 q.2 (List.mem_cons_self ..)⟩, lK_rf (fun n e y => h n e (List.mem_cons_of_mem _ y))⟩
theorem lK_mem {G : Tr → Prop} : ∀ {K K' : Cd}, lK (eqP G) K K' → ∀ n v, (n, v) ∈ K → G v
  | [], _, _, n, v, y => by cases y
  | q :: r, [], h, _, _, _ => absurd h id
  | q :: r, q' :: r', h, n, v, y => by
    rcases List.mem_cons.mp y with y | y
    · rw [show v = q.2 by rw [← y]]; exact h.1.2.2
    · exact lK_mem h.2 n v y
end RI
theorem rOn_cases (V : Vr) (I : Nat → Int64) (sd : Int32) (st0 c : Nat) (Y : Yr) : (¬ wr V c = 0 ∧ rOn V I sd st0 c Y = (rFa Y.1 (st0 + c) (i32 (wr V c)), Y.2.1, Y.2.2 + 1)) ∨ (wr V c = 0 ∧ (rOz V I sd st0 c Y).2.2 = false ∧ rOn V I sd st0 c Y = (rFa (rOz V I sd st0 c Y).1 (st0 + c) 5, Y.2.1, Y.2.2 + 1)) ∨ (wr V c = 0 ∧ (rOz V I sd st0 c Y).2.2 = true ∧ rOn V I sd st0 c Y = (rEd (rOz V I sd st0 c Y).1 (st0 + c) (rOl V I sd st0 c Y).1, (rOl V I sd st0 c Y).2, Y.2.2 + 1)) := by
  rcases Nat.decEq (wr V c) 0 with h | h
  · exact Or.inl ⟨h, if_neg h⟩
  · refine Or.inr ?_
    have e : rOn V I sd st0 c Y = if (rOz V I sd st0 c Y).2.2 = true then (rEd (rOz V I sd st0 c Y).1 (st0 + c) (rOl V I sd st0 c Y).1, (rOl V I sd st0 c Y).2, Y.2.2 + 1) else (rFa (rOz V I sd st0 c Y).1 (st0 + c) 5, Y.2.1, Y.2.2 + 1) := if_pos h
    cases hz : (rOz V I sd st0 c Y).2.2 with
    | false => rw [hz] at e; exact Or.inl ⟨h, rfl, e⟩
    | true => rw [hz] at e; exact Or.inr ⟨h, rfl, e⟩
theorem rEd_o {RR : Nat → Rs} {i j : Nat} (h : ¬ j = i) (o : Option Cd) : rEd RR i o j = RR j := by
  cases o with
  | none => exact rUp_n h
  | some K => exact rUp_n h
/-- the other results stay -/
theorem rOn_o {V : Vr} {I : Nat → Int64} {sd : Int32} {st0 c i : Nat} {Y : Yr} (h : ¬ i = st0 + c) : (rOn V I sd st0 c Y).1 i = Y.1 i := by
  have hz : (rOz V I sd st0 c Y).1 i = Y.1 i := ((rdA_i (V := V) (st0 := st0) (c := c) (rid := Y.2.2) (Y := (rO0 Y.1 (st0 + c) (V c).2 I sd, .leaf, true)) 16).2.2 i h).trans (rUp_n h)
  rcases rOn_cases V I sd st0 c Y with ⟨-, e⟩ | ⟨-, -, e⟩ | ⟨-, -, e⟩ <;> rw [e]
  · exact rUp_n h
  · exact (rUp_n h).trans hz
  · exact (rEd_o h _).trans hz
theorem rOn_T {V : Vr} {I : Nat → Int64} {sd : Int32} {st0 c : Nat} {Y : Yr} : (rOn V I sd st0 c Y).2.2 = Y.2.2 + 1 := by
  rcases rOn_cases V I sd st0 c Y with ⟨-, e⟩ | ⟨-, -, e⟩ | ⟨-, -, e⟩ <;> rw [e]
/-- all that is read is of the results' runs -/
theorem rdA_P {D : Nat → Prop} {V : Vr} {RR : Nat → Rs} {st0 c rid : Nat} (hr : D rid) (hW : ∀ i n v, (n, v) ∈ rK (RR i) → i < 24 → rP D v) (h0 : st0 + 12 ≤ 24) : ∀ n, rP D (rdA V st0 c rid n (RR, .leaf, true)).2.1
  | 0 => fun r y => absurd y id
  | n + 1 => by
    have ih := rdA_P (V := V) (RR := RR) (c := c) hr hW h0 n
    have iz := (rdA_i (V := V) (st0 := st0) (c := c) (rid := rid) (Y := (RR, .leaf, true)) n).1
    have e : rdA V st0 c rid (n + 1) (RR, .leaf, true) = rdN V st0 c rid n (rdA V st0 c rid n (RR, .leaf, true)) := rfl
    rw [e]
    obtain ⟨Z, hZ⟩ : ∃ Z, Z = rdA V st0 c rid n (RR, .leaf, true) := ⟨_, rfl⟩
    rw [← hZ] at ih iz ⊢
    by_cases hb : (rds (V c).2).testBit n = true
    · cases hv : vin V Z.1 st0 n with
      | none => rw [rdN_0 hb hv]; exact ih
      | some v =>
        rw [rdN_1 hb hv]
        have hv' : rP D v := by
          unfold vin at hv
          obtain ⟨c', h1, h2⟩ := Option.bind_eq_some_iff.mp hv
          rw [iz] at h2
          refine hW _ n v (lkp_mem h2) ?_
          have : c' < 12 := by
            unfold src at h1
            cases ho : ow V n 12 with
            | none => rw [ho] at h1; cases h1
            | some c2 =>
              rw [ho] at h1
              have h1 : (if wr V c2 = 0 ∧ (Z.1 (st0 + c2)).1 = 0 then some c2 else none) = some c' := h1
              split at h1
              · cases h1; exact ow_lt ho
              · cases h1
          omega
        intro r y
        rcases y with y | y | y
        · rw [← y.2]; exact hr
        · exact hv' r y
        · exact ih r y
    · unfold rdN
      rw [if_neg hb]
      exact ih
theorem rOn_lrd {V : Vr} {I : Nat → Int64} {sd : Int32} {st0 c : Nat} {Y : Yr} (h0 : st0 + 12 ≤ 24) (hc : c < 12) (hm : mwf V Y.1) : ∀ r, lrd (rOn V I sd st0 c Y).1 r → lrd Y.1 r ∨ r = Y.2.2 := by
  intro r ⟨i, n, v, hi, hmem, hr⟩
  rcases Nat.decEq i (st0 + c) with hne | rfl
  · rw [rOn_o hne] at hmem
    exact Or.inl ⟨i, n, v, hi, hmem, hr⟩
  · rcases rOn_cases V I sd st0 c Y with ⟨-, e⟩ | ⟨-, -, e⟩ | ⟨-, -, e⟩ <;> rw [e] at hmem
    · have hmem : (n, v) ∈ rK (rUp _ _ _ _) := hmem
      rw [rUp_s] at hmem
      cases hmem
    · have hmem : (n, v) ∈ rK (rUp _ _ _ _) := hmem
      rw [rUp_s] at hmem
      cases hmem
    · have hD : ∀ i n v, (n, v) ∈ rK (rO0 Y.1 (st0 + c) (V c).2 I sd i) → i < 24 → rP (fun r => lrd Y.1 r ∨ r = Y.2.2) v := fun j n' v' y hj r' y' => by
        rcases Nat.decEq j (st0 + c) with hne | rfl
        · have y : (n', v') ∈ rK (rUp Y.1 (st0 + c) _ j) := y
          rw [rUp_n hne] at y
          exact Or.inl ⟨j, n', v', hj, y, y'⟩
        · have y : (n', v') ∈ rK (rUp Y.1 (st0 + c) (rBe (Y.1 (st0 + c)) (V c).2 I sd) (st0 + c)) := y
          rw [rUp_s] at y
          cases y
      have hE := rdA_P (D := fun r => lrd Y.1 r ∨ r = Y.2.2) (V := V) (c := c) (rid := Y.2.2) (Or.inr rfl) hD h0 16
      have hC : lK (eqP (rP (fun r => lrd Y.1 r ∨ r = Y.2.2))) (V c).2 (V c).2 := lK_rf (fun n' e' y => ⟨rfl, fun r' y' => absurd y' (rdt_wE (hm.1 c hc (n', e') y).2)⟩)
      have key := (rnL_R (cl := c) (lrw_rP (I := I) (sd := sd) (rid := Y.2.2) (B := Y.2.1) (D := fun r => lrd Y.1 r ∨ r = Y.2.2) (Or.inr rfl)) (V c).2 (V c).2 hC (rOz V I sd st0 c Y).2.1 (rOz V I sd st0 c Y).2.1 [] [] 0 0 0 ⟨rfl, hE⟩ trivial).1
      have hmem : (n, v) ∈ rK (rEd (rOz V I sd st0 c Y).1 (st0 + c) (rnL I sd c Y.2.2 (V c).2 (rOz V I sd st0 c Y).2.1 [] 0 0 (Y.2.1 + 0)).1 (st0 + c)) := hmem
      rcases key with ⟨k1, -⟩ | ⟨K, K', k1, -, k2⟩
      · rw [k1] at hmem
        have hmem : (n, v) ∈ rK (rUp _ _ _ _) := hmem
        rw [rUp_s] at hmem
        cases hmem
      · rw [k1] at hmem
        have hmem : (n, v) ∈ rK (rUp _ _ _ _) := hmem
        rw [rUp_s] at hmem
        exact lK_mem k2 n v hmem r hr
/-! Settling. -/
abbrev Sl : Type := Nat × Nat × Yr
noncomputable def stS (V : Vr) (I : Nat → Int64) (sd : Int32) (st0 c : Nat) (S : Sl) : Sl :=
  if S.1.testBit c = true ∧ ¬ (wr V c = 0 ∧ ¬ dim V c 16 &&& S.1 = 0) then
    (if sti V S.2.2.1 st0 I sd c = true then (nb_wo S.1 (2 ^ c), S.2.1 + rOr V c, rOn V I sd st0 c S.2.2) else (nb_wo S.1 (2 ^ c), S.2))
  else S
noncomputable def stR (V : Vr) (I : Nat → Int64) (sd : Int32) (st0 : Nat) : Nat → Sl → Sl
  | 0, S => S
  | n + 1, S => stS V I sd st0 n (stR V I sd st0 n S)
noncomputable def stT (V : Vr) (I : Nat → Int64) (sd : Int32) (st0 : Nat) : Nat → Sl → Sl
  | 0, S => S
  | r + 1, S => stR V I sd st0 12 (stT V I sd st0 r S)
noncomputable def stl (V : Vr) (I : Nat → Int64) (sd : Int32) (st0 w : Nat) (Y : Yr) : Sl := stT V I sd st0 12 (w &&& vcl V 12, 0, Y)
theorem stR_0 {V : Vr} {I : Nat → Int64} {sd : Int32} {st0 : Nat} {S : Sl} (h : S.1 = 0) : ∀ n, stR V I sd st0 n S = S
  | 0 => rfl
  | n + 1 => by
    show stS V I sd st0 n (stR V I sd st0 n S) = S
    rw [stR_0 h n]
    unfold stS
    rw [if_neg (fun y => by rw [h, Nat.zero_testBit] at y; cases y.1)]
theorem stT_0 {V : Vr} {I : Nat → Int64} {sd : Int32} {st0 : Nat} {S : Sl} {r : Nat} (h : (stT V I sd st0 r S).1 = 0) : ∀ k, stT V I sd st0 (r + k) S = stT V I sd st0 r S
  | 0 => rfl
  | k + 1 => by
    show stR V I sd st0 12 (stT V I sd st0 (r + k) S) = _
    rw [stT_0 h k]
    exact stR_0 h 12
def pc12 (m : Nat) : Nat := ((List.range 12).filter (fun i => m.testBit i)).length
theorem pc_le (m : Nat) : pc12 m ≤ 12 := by
  have := List.length_filter_le (fun i => m.testBit i) (List.range 12)
  rw [List.length_range] at this
  exact this
theorem pc_wo {m c : Nat} (hc : c < 12) (hb : m.testBit c = true) : pc12 (nb_wo m (2 ^ c)) + 1 ≤ pc12 m := by
  unfold pc12
  rw [flt_split (fun i => m.testBit i) (fun i => decide (i = c))]
  have h1 : 1 ≤ ((List.range 12).filter (fun i => m.testBit i && decide (i = c))).length := List.length_pos_of_mem (a := c) (List.mem_filter.mpr ⟨List.mem_range.mpr hc, by rw [hb]; simp⟩)
  have h2 : ((List.range 12).filter (fun i => (nb_wo m (2 ^ c)).testBit i)).length ≤ ((List.range 12).filter (fun i => m.testBit i && !decide (i = c))).length := flt_le (fun i _ hi => by
    have hi : (nb_wo m (2 ^ c)).testBit i = true := hi
    rw [nb_wo_bit, Nat.testBit_two_pow] at hi
    have e : decide (i = c) = decide (c = i) := by simp [eq_comm]
    rw [e]
    exact hi)
  omega
theorem wo_lt12 {m c : Nat} (h : m < 2 ^ 12) : nb_wo m (2 ^ c) < 2 ^ 12 := wo_lt h
section SE
variable {SC : List Value} {d q : Nat} {h : re_H} {Q : Nat → Value → re_H → Prop} {sh st0 b : Nat} {V : Vr} {I : Nat → Int64} {sd : Int32} {Y : Yr} {N : List Nat} {ff W : Nat}
theorem nbx_up {ff' : Nat} (z : nbx h b V I sd Y N ff W) (hf : ff ≤ ff') : nbx h b V I sd Y N ff' W := by
  obtain ⟨E, F, ho, la, f0, z1, z2, z3⟩ := z
  exact ⟨E, F, ho, la, f0, z1, by omega, z3⟩
/-- while settling -/
def sIn (b : Nat) (V : Vr) (I : Nat → Int64) (sd : Int32) (ff W : Nat) (h0 : re_H) (N0 : List Nat) (S : Sl) (h : re_H) (N : List Nat) : Prop := nbx h b V I sd S.2.2 N (ff + 3000 * (12 - pc12 S.1)) W ∧ bru b h0 N0 h N ∧ mwf V S.2.2.1 ∧ 0 < S.2.2.2.2 ∧ (∃ L : List Nat, 320 * (L.length + pc12 S.1) ≤ W ∧ ¬ 0 ∈ L ∧ ∀ r, lrd S.2.2.1 r → r ∈ L) ∧ S.1 < 2 ^ 12 ∧ S.2.1 + pc12 S.1 ≤ 12
theorem c513 {w : Nat} (hw : w < 2147483648) (ys : bsh b sh st0) (z : nbx h b V I sd Y N ff W) (hm : mwf V Y.1) (hT : 0 < Y.2.2) (hL : ∃ L : List Nat, 320 * (L.length + 12) ≤ W ∧ ¬ 0 ∈ L ∧ ∀ r, lrd Y.1 r → r ∈ L) (hff : ff + 40000 < 2 ^ 62) (hW : W ≤ 400000) (K : ∀ h' N', nbx h' b V I sd (stl V I sd st0 w Y).2.2 N' (ff + 36000) W → mwf V (stl V I sd st0 w Y).2.2.1 → 0 < (stl V I sd st0 w Y).2.2.2.2 → bru b h N h' N' → (stl V I sd st0 w Y).2.1 ≤ 12 → Q 1 (.int (i32 (stl V I sd st0 w Y).2.1)) h') : wp SC 513 (d + 34) q 0 [(0, .ref sh), (1, .int (i32 w))] [] h Q := by
  have hvc : vcl V 12 < 2 ^ 12 := vcl_lt V 12
  obtain ⟨S0, hS0⟩ : ∃ S0 : Sl, S0 = (w &&& vcl V 12, 0, Y) := ⟨_, rfl⟩
  have eS : stl V I sd st0 w Y = stT V I sd st0 12 S0 := by rw [hS0]; rfl
  rw [eS] at K
  have cell : ∀ (n : Nat) (S : Sl) (h1 : re_H) (N1 : List Nat) (r : Nat), n < 12 → sIn b V I sd ff W h N S h1 N1 → (∀ h2 N2, sIn b V I sd ff W h N (stS V I sd st0 n S) h2 N2 → wp SC 513 (d + 34) q 115 [(0, .ref sh), (2, .int (i32 (stS V I sd st0 n S).1)), (3, .int (i32 (stS V I sd st0 n S).2.1)), (4, .int (i32 r)), (5, .int (i32 n))] [] h2 Q) → wp SC 513 (d + 34) q 36 [(0, .ref sh), (2, .int (i32 S.1)), (3, .int (i32 S.2.1)), (4, .int (i32 r)), (5, .int (i32 n))] [] h1 Q := by
    intro n S h1 N1 r hn si KK
    obtain ⟨s1, s2, s3, s4, ⟨L, l1, l2, l3⟩, s5, s6⟩ := id si
    obtain ⟨E, F, ho, la, f0, zb, -⟩ := id s1
    obtain ⟨zs, h0⟩ := bsh_c ys zb
    have zl := zb.1.2.1
    have a6 := lk_at zl (j := 6) (i := n) (by omega) (by omega) (by show n < 12; omega)
    have f6 : lkF V 6 n = i32 (wr V n) := rfl
    rw [f6] at a6
    have a4 := lk_at zl (j := 4) (i := n) (by omega) (by omega) (by show n < 12; omega)
    have f4 : lkF V 4 n = i32 (dim V n 16) := rfl
    rw [f4] at a4
    have hwr := wr_le V n
    have hd := dim_lt V n 16
    have hda : dim V n 16 &&& S.1 < 2147483648 := Nat.lt_of_le_of_lt Nat.and_le_left (by omega)
    have at69 : ∀ x : Int32, (x = 0 ↔ ¬ (wr V n = 0 ∧ ¬ dim V n 16 &&& S.1 = 0)) → wp SC 513 (d + 34) q 69 [(0, .ref sh), (2, .int (i32 S.1)), (3, .int (i32 S.2.1)), (4, .int (i32 r)), (5, .int (i32 n))] [.int x] h1 Q := by
      intro x hx
      have no : ¬ (S.1.testBit n = true ∧ ¬ (wr V n = 0 ∧ ¬ dim V n 16 &&& S.1 = 0)) → wp SC 513 (d + 34) q 115 [(0, .ref sh), (2, .int (i32 S.1)), (3, .int (i32 S.2.1)), (4, .int (i32 r)), (5, .int (i32 n))] [] h1 Q := fun y => by
        have e : stS V I sd st0 n S = S := if_neg y
        have := KK h1 N1
        rw [e] at this
        exact this si
      refine B513_69 (fun g => no ?_) (fun g => B513_80 (fun g2 => ?_) (fun g2 => B513_85 (no ?_)))
      · rw [i3_bit (by omega) (by omega)] at g
        rintro ⟨y, -⟩
        rw [y] at g
        exact absurd g (by decide)
      rotate_left
      · rintro ⟨-, y⟩
        exact g2 (hx.mpr y)
      rw [i3_bit (by omega) (by omega)] at g
      have hbit : S.1.testBit n = true := by
        cases hb : S.1.testBit n with
        | true => rfl
        | false => rw [hb] at g; exact absurd rfl g
      have hcon : S.1.testBit n = true ∧ ¬ (wr V n = 0 ∧ ¬ dim V n 16 &&& S.1 = 0) := ⟨hbit, hx.mp g2⟩
      have hpc := pc_wo hn hbit
      have hp12 := pc_le S.1
      refine B513_88 zs rfl (c514 (d := d) (by omega) h0 (fno_sg zb.2.2.2.1) zs zl zb.1.1 zb.2.1 zb.2.2.2.2.1 zb.1.2.2.1 zb.1.2.2.2.1 (ret1 ?_))
      rw [i3_shl (by omega), i3_wo]
      refine B513_103 (fun g3 => ?_) (fun g3 => ?_)
      · have hs : ¬ sti V S.2.2.1 st0 I sd n = true := fun y => by rw [y] at g3; exact absurd g3 (by decide)
        have e : stS V I sd st0 n S = (nb_wo S.1 (2 ^ n), S.2) := (if_pos hcon).trans (if_neg hs)
        have := KK h1 N1
        rw [e] at this
        exact this ⟨nbx_up s1 (by show _ ≤ ff + 3000 * (12 - pc12 (nb_wo S.1 (2 ^ n))); omega), s2, s3, s4, ⟨L, by show 320 * (L.length + pc12 (nb_wo S.1 (2 ^ n))) ≤ W; omega, l2, l3⟩, wo_lt12 s5, by show S.2.1 + pc12 (nb_wo S.1 (2 ^ n)) ≤ 12; omega⟩
      · have hs : sti V S.2.2.1 st0 I sd n = true := by
          cases hh : sti V S.2.2.1 st0 I sd n with
          | true => rfl
          | false => rw [hh] at g3; exact absurd rfl g3
        have e : stS V I sd st0 n S = (nb_wo S.1 (2 ^ n), S.2.1 + rOr V n, rOn V I sd st0 n S.2.2) := (if_pos hcon).trans (if_pos hs)
        rw [e] at KK
        have hr1 : rOr V n ≤ 1 := by unfold rOr; split <;> omega
        refine B513_106 zs rfl (wp_up (d := d + 5) (by omega) (Nat.le_refl _) (c519 hn ys s1 s3 s4 ⟨L, by omega, l2, l3⟩ (by omega) hW (fun h2 N2 z2 m2 u2 => ret1 (B513_113 ?_))))
        rw [i3_add]
        refine KK h2 N2 ⟨nbx_up z2 (by show _ ≤ ff + 3000 * (12 - pc12 (nb_wo S.1 (2 ^ n))); omega), bru_tr s2 u2, m2, by show 0 < (rOn V I sd st0 n S.2.2).2.2; rw [rOn_T]; omega, ⟨S.2.2.2.2 :: L, ?_, ?_, fun r' y => ?_⟩, wo_lt12 s5, by show S.2.1 + rOr V n + pc12 (nb_wo S.1 (2 ^ n)) ≤ 12; omega⟩
        · show 320 * (L.length + 1 + pc12 (nb_wo S.1 (2 ^ n))) ≤ W
          omega
        · intro y
          rcases List.mem_cons.mp y with y | y
          · omega
          · exact l2 y
        · rcases rOn_lrd h0 hn s3 r' y with y | y
          · exact List.mem_cons_of_mem _ (l3 r' y)
          · rw [y]; exact List.mem_cons_self ..
    refine B513_36 ⟨_, zs, rfl⟩ ⟨_, lk_c zl, rfl⟩ a6 (fun g => B513_68 (at69 _ ⟨fun _ y => g ((i3_zero (by omega)).mpr y.1), fun _ => rfl⟩)) (fun g => B513_49 ⟨_, zs, rfl⟩ ⟨_, lk_c zl, rfl⟩ a4 (fun g2 => B513_68 (at69 _ ⟨fun _ y => y.2 ?_, fun _ => rfl⟩)) (fun g2 => B513_64 (at69 _ ⟨fun y => absurd y (by decide), fun y => absurd ⟨(i3_zero (by omega)).mp g, fun y2 => g2 ?_⟩ y⟩)))
    · rw [i3_and] at g2
      exact (i3_zero hda).mp g2
    · rw [i3_and]
      exact (i3_zero hda).mpr y2
  have rounds : ∀ (k r : Nat), r + k = 12 → ∀ h1 N1, sIn b V I sd ff W h N (stT V I sd st0 r S0) h1 N1 → wp SC 513 (d + 34) q 15 [(0, .ref sh), (2, .int (i32 (stT V I sd st0 r S0).1)), (3, .int (i32 (stT V I sd st0 r S0).2.1)), (4, .int (i32 r))] [] h1 Q := by
    intro k
    induction k with
    | zero =>
      intro r hr h1 N1 si
      cases (show r = 12 by omega)
      obtain ⟨s1, s2, s3, s4, -, -, s6⟩ := si
      exact B513_15 (fun _ => B513_127 (K h1 N1 (nbx_up s1 (by omega)) s3 s4 s2 (by omega))) (fun g => absurd ((i3_lt (by omega) (by omega)).mp g) (by omega))
    | succ k ih =>
      intro r hr h1 N1 si
      obtain ⟨s1, s2, s3, s4, -, s5, s6⟩ := id si
      refine B513_15 (fun g => absurd ((i3_lt (by omega) (by omega)).mpr (by omega)) g) (fun _ => B513_22 (fun g => ?_) (fun g => B513_26 ?_))
      · have hz : (stT V I sd st0 r S0).1 = 0 := (i3_zero (by omega)).mp g
        have e := stT_0 hz (k + 1)
        rw [show r + (k + 1) = 12 by omega] at e
        rw [e] at K
        exact B513_127 (K h1 N1 (nbx_up s1 (by omega)) s3 s4 s2 (by omega))
      · have inner : ∀ (k2 n : Nat), n + k2 = 12 → ∀ h1 N1, sIn b V I sd ff W h N (stR V I sd st0 n (stT V I sd st0 r S0)) h1 N1 → wp SC 513 (d + 34) q 29 [(0, .ref sh), (2, .int (i32 (stR V I sd st0 n (stT V I sd st0 r S0)).1)), (3, .int (i32 (stR V I sd st0 n (stT V I sd st0 r S0)).2.1)), (4, .int (i32 r)), (5, .int (i32 n))] [] h1 Q := by
          intro k2
          induction k2 with
          | zero =>
            intro n hn h1 N1 si
            cases (show n = 12 by omega)
            refine B513_29 (fun _ => B513_121 ?_) (fun g => absurd ((i3_lt (by omega) (by omega)).mp g) (by omega))
            rw [i3_add]
            exact ih (r + 1) (by omega) h1 N1 si
          | succ k2 ih2 =>
            intro n hn h1 N1 si
            refine B513_29 (fun g => absurd ((i3_lt (by omega) (by omega)).mpr (by omega)) g) (fun _ => cell n _ h1 N1 r (by omega) si (fun h2 N2 si2 => B513_115 ?_))
            rw [i3_add]
            exact ih2 (n + 1) (by omega) h2 N2 si2
        exact inner 12 0 rfl h1 N1 si
  obtain ⟨E, F, ho, la, f0, zb, -⟩ := id z
  obtain ⟨zs, h0⟩ := bsh_c ys zb
  refine B513_0 ⟨_, zs, rfl⟩ zb.1.1.1 rfl (c65 zb.1.1 (ret1 (B513_8 ?_)))
  have hlt : w &&& vcl V 12 < 2 ^ 12 := Nat.lt_of_le_of_lt Nat.and_le_right hvc
  have hp := pc_le (w &&& vcl V 12)
  have e1 : S0.1 = w &&& vcl V 12 := by rw [hS0]
  have e2 : S0.2.1 = 0 := by rw [hS0]
  have e3 : S0.2.2 = Y := by rw [hS0]
  have := rounds 12 0 rfl h N (by
    show sIn b V I sd ff W h N S0 h N
    unfold sIn
    rw [e1, e2, e3]
    obtain ⟨L, l1, l2, l3⟩ := hL
    exact ⟨nbx_up z (by omega), bru_rf, hm, hT, ⟨L, by omega, l2, l3⟩, hlt, by omega⟩)
  have e4 : stT V I sd st0 0 S0 = S0 := rfl
  rw [e4, e1, e2] at this
  rw [i3_and]
  exact this
end SE
