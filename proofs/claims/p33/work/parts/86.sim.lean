/-! Two notebooks that were told the same. -/
def bun (P : Nat → Nat → Prop) : Prop := (∀ a b b', P a b → P a b' → b = b') ∧ ∀ a a' b, P a b → P a' b → a = a'
def rsm (P : Nat → Nat → Prop) (R R' : Rs) : Prop := R.1 = R'.1 ∧ R.2.1 = R'.2.1 ∧ lK (eV P tQ) (rK R) (rK R') ∧ rC R = rC R' ∧ (∀ k, k < 4 → rI R k = rI R' k) ∧ rS R = rS R' ∧ ∀ n, n < 16 → oR (rlt P tQ) (rW R n) (rW R' n)
def smY (Y Y' : Yr) : Prop := ∃ P : Nat → Nat → Prop, bun P ∧ (∀ a b, P a b → a < Y.2.1 ∧ b < Y'.2.1) ∧ ∀ i, i < 12 → rsm P (Y.1 i) (Y'.1 i)
section SM
variable {P P' : Nat → Nat → Prop} {V : Vr} {I : Nat → Int64} {sd : Int32} {RR RR' : Nat → Rs}
theorem rlt_f {Q : Tr → Prop} : ∀ {t t' : Tr}, rlt P Q t t' → isC t = isC t' ∧ num t = num t' ∧ (isC t = true → P (stp t) (stp t'))
  | .leaf, .leaf, _ => ⟨rfl, rfl, fun y => by cases y⟩
  | .inner k l u a b, .inner k' l' u' a' b', h => ⟨by show (k == 3) = (k' == 3); rw [h.1], h.2.1, fun y => (h.2.2.1 (beq_iff_eq.mp y)).1⟩
  | .leaf, .inner _ _ _ _ _, h => absurd h id
  | .inner _ _ _ _ _, .leaf, h => absurd h id
theorem smv_P (hb : bun P) {u u' v v' : Option Tr} (h : oR (rlt P tQ) u u') (h' : oR (rlt P tQ) v v') : smv u v = smv u' v' := by
  rcases h with ⟨rfl, rfl⟩ | ⟨a, a', rfl, rfl, h⟩ <;> rcases h' with ⟨rfl, rfl⟩ | ⟨c, c', rfl, rfl, h'⟩
  · rfl
  · rfl
  · rfl
  · obtain ⟨f1, f2, f3⟩ := rlt_f h
    obtain ⟨g1, g2, g3⟩ := rlt_f h'
    rw [smv_s, smv_s, ← f1, ← g1, ← f2, ← g2]
    split
    next hc =>
      cases hc' : isC c with
      | false => rfl
      | true =>
        have p1 := f3 hc
        have p2 := g3 hc'
        have e : (stp a == stp c) = (stp a' == stp c') := by
          rw [Bool.eq_iff_iff, beq_iff_eq, beq_iff_eq]
          constructor
          · intro y
            rw [← y] at p2
            exact hb.1 _ _ _ p1 p2
          · intro y
            rw [← y] at p2
            exact hb.2 _ _ _ p1 p2
        rw [e]
    · rfl
theorem rsm_up (hP : ∀ a b, P a b → P' a b) {R R' : Rs} (h : rsm P R R') : rsm P' R R' := by
  obtain ⟨h1, h2, h3, h4, h5, h6, h7⟩ := h
  exact ⟨h1, h2, lK_mono (fun v v' y => ⟨rlt_mono hP (fun _ y => y) y.1, y.2⟩) h3, h4, h5, h6, fun n hn => oR_mono (h7 n hn) (fun _ _ _ y => rlt_mono hP (fun _ y => y) y)⟩
theorem vin_P (h : ∀ i, i < 12 → rsm P (RR i) (RR' i)) (n : Nat) : oR (eV P tQ) (vin V RR 0 n) (vin V RR' 0 n) := by
  unfold vin src
  cases ho : ow V n 12 with
  | none => exact Or.inl ⟨rfl, rfl⟩
  | some c =>
    have hc := ow_lt ho
    obtain ⟨h1, h2, h3, -⟩ := h c hc
    dsimp only
    rw [Nat.zero_add, h1]
    split
    · show oR _ (lkp n (rK (RR (0 + c)))) (lkp n (rK (RR' (0 + c))))
      rw [Nat.zero_add]
      exact lK_lkp h3
    · exact Or.inl ⟨rfl, rfl⟩
theorem bex_cong {f g : Nat → Bool} : ∀ k, (∀ i, i < k → f i = g i) → bex f k = bex g k
  | 0, _ => rfl
  | k + 1, h => by
    show (bex f k || f k) = (bex g k || g k)
    rw [bex_cong k (fun i hi => h i (by omega)), h k (Nat.lt_succ_self k)]
theorem mfr_P {R R' : Rs} {C : Cd} (h : rsm P R R') : mfr R C I sd = mfr R' C I sd := by
  obtain ⟨-, -, -, h4, h5, h6, -⟩ := h
  unfold mfr
  rw [h4, h6, bex_cong 4 (fun i hi => by rw [h5 i hi])]
theorem oR_fst {o o' : Option Tr} (h : oR (eV P tQ) o o') : oR (rlt P tQ) o o' := oR_mono h (fun _ _ _ y => y.1)
theorem sti_P (hb : bun P) (h : ∀ i, i < 12 → rsm P (RR i) (RR' i)) {c : Nat} (hc : c < 12) : sti V RR 0 I sd c = sti V RR' 0 I sd c := by
  obtain ⟨h1, h2, h3, h4, h5, h6, h7⟩ := id (h c hc)
  unfold sti
  rw [Nat.zero_add, h1, mfr_P (h c hc)]
  have e : bex (chg V RR 0 c) 16 = bex (chg V RR' 0 c) 16 := bex_cong 16 (fun n hn => by
    unfold chg
    rw [Nat.zero_add, smv_P hb (h7 n hn) (oR_fst (vin_P h n))])
  rw [e]
theorem rlt_cut {Q : Tr → Prop} {F : Nat → Tr} {B : Nat} : ∀ {t t' : Tr}, rlt P Q t t' → clo F B t → rlt (fun a b => P a b ∧ a < B) Q t t'
  | .leaf, .leaf, _, _ => trivial
  | .inner k l u a b, .inner k' l' u' a' b', h, c => ⟨h.1, h.2.1, fun y => ⟨⟨(h.2.2.1 y).1, (c.1 y).1⟩, (h.2.2.1 y).2.1, (h.2.2.1 y).2.2.1, rlt_cut (h.2.2.1 y).2.2.2 (c.1 y).2.2⟩, fun y => ⟨(h.2.2.2.1 y).1, rlt_cut (h.2.2.2.1 y).2.1 (c.2 y).1, rlt_cut (h.2.2.2.1 y).2.2 (c.2 y).2⟩, h.2.2.2.2⟩
  | .leaf, .inner _ _ _ _ _, h, _ => absurd h id
  | .inner _ _ _ _ _, .leaf, h, _ => absurd h id
theorem lK_mem2 {RV RV' : Tr → Tr → Prop} : ∀ {K K' : Cd}, lK RV K K' → (∀ n v v', (n, v) ∈ K → RV v v' → RV' v v') → lK RV' K K'
  | [], [], _, _ => trivial
  | q :: r, q' :: r', h, hm => ⟨⟨h.1.1, hm q.1 q.2 q'.2 (List.mem_cons_self ..) h.1.2⟩, lK_mem2 h.2 (fun n v v' y => hm n v v' (List.mem_cons_of_mem _ y))⟩
  | [], _ :: _, h, _ => absurd h id
  | _ :: _, [], h, _ => absurd h id
theorem Rok_1 {F : Nat → Tr} {G : Gh} {B bh : Nat} (h : Rok F G B bh RR) : Rok F G B 1 RR := fun i hi => by
  obtain ⟨h1, h2⟩ := h i hi
  refine ⟨h1.elim Or.inl (fun y => Or.inr ?_), h2⟩
  obtain ⟨B0, T0, I0, r1, r2, r3, r4, r5, r6, r7, r8, r9⟩ := y
  exact ⟨B0, T0, I0, r1, r2, r3, r4, r5, r6, r7, fun n v hn hb hv => ⟨(r8 n v hn hb hv).1, (fun y => (by cases y))⟩, r9⟩
theorem rup_sm {R R' : Rs} (err : Int32) (h : rsm P R R') : rsm P (rup R err []) (rup R' err []) := by
  obtain ⟨h1, h2, h3, h4, h5, h6, h7⟩ := h
  exact ⟨rfl, h2, trivial, h4, h5, h6, h7⟩
theorem rOn_P {Y Y' : Yr} {F : Nat → Tr} {G : Gh} {c : Nat} (hc : c < 12) (h : smY Y Y') (hR : Rok F G Y.2.1 1 Y.1) : smY (rOn V I sd 0 c Y) (rOn V I sd 0 c Y') := by
  obtain ⟨P, hb, hlt, hr⟩ := h
  rcases Nat.decEq (wr V c) 0 with hw | hw
  · rcases rOn_cases V I sd 0 c Y with ⟨-, e⟩ | ⟨y, -⟩ | ⟨y, -⟩
    rotate_left
    · exact absurd y hw
    · exact absurd y hw
    rcases rOn_cases V I sd 0 c Y' with ⟨-, e'⟩ | ⟨y, -⟩ | ⟨y, -⟩
    rotate_left
    · exact absurd y hw
    · exact absurd y hw
    rw [e, e', Nat.zero_add]
    refine ⟨P, hb, hlt, fun i hi => ?_⟩
    show rsm P (rUp _ _ _ i) (rUp _ _ _ i)
    rcases Nat.decEq i c with hne | rfl
    · rw [rUp_n hne, rUp_n hne]; exact hr i hi
    · rw [rUp_s, rUp_s]; exact rup_sm _ (hr i hi)
  rw [rOn_right hw, rOn_right hw, Nat.zero_add]
  obtain ⟨P0, hP0⟩ : ∃ P0 : Nat → Nat → Prop, P0 = fun a b => P a b ∨ ∃ k, a = Y.2.1 + k ∧ b = Y'.2.1 + k := ⟨_, rfl⟩
  have p1 : ∀ a b, P a b → P0 a b := fun a b y => by rw [hP0]; exact Or.inl y
  have p2 : ∀ k, P0 (Y.2.1 + k) (Y'.2.1 + k) := fun k => by rw [hP0]; exact Or.inr ⟨k, rfl, rfl⟩
  have w := lrw_rlt (I := I) (I' := I) (sd := sd) (sd' := sd) (rid := Y.2.2) (rid' := Y'.2.2) (B := Y.2.1) (B' := Y'.2.1) (P := P0) (Q := tQ) (fun _ _ => ⟨trivial, trivial, trivial, fun _ => rfl, fun _ => rfl⟩) p2
  obtain ⟨k1, k2, k, k3, k4⟩ := outC_R (cl := c) (C := (V c).2) (W := vin V Y.1 0) (W' := vin V Y'.1 0) w ⟨trivial, rfl, rfl⟩ (lK_rf (fun _ _ _ => ⟨rfl, trivial⟩)) (fun n _ _ => oR_mono (vin_P hr n) (fun _ _ _ y => ⟨rlt_mono p1 (fun _ y => y) y.1, y.2⟩))
  obtain ⟨F', f1, f2, f3⟩ := outC_F (C := (V c).2) (I := I) (sd := sd) (cl := c) (B := Y.2.1) (rid := Y.2.2) (W := vin V Y.1 0) (F := F) (fun n v _ _ hv => by
    obtain ⟨c', o1, o2, o3, o4, o5⟩ := vin_some hv
    rw [Nat.zero_add] at o5
    exact (hR c' o2).2 n v o5)
  have up : ∀ a b, P a b → P0 a b ∧ a < (outC (V c).2 I sd c (vin V Y.1 0) Y.2.1 Y.2.2).2.2 := fun a b y => ⟨p1 a b y, Nat.lt_of_lt_of_le (hlt a b y).1 f2⟩
  refine ⟨fun a b => P0 a b ∧ a < (outC (V c).2 I sd c (vin V Y.1 0) Y.2.1 Y.2.2).2.2, ⟨fun a b b' y y' => ?_, fun a a' b y y' => ?_⟩, fun a b y => ⟨y.2, ?_⟩, fun i hi => ?_⟩
  · have y := y.1
    have y' := y'.1
    rw [hP0] at y y'
    rcases y with y | ⟨j, y1, y2⟩ <;> rcases y' with y' | ⟨j', y1', y2'⟩
    · exact hb.1 _ _ _ y y'
    · have := hlt _ _ y; omega
    · have := hlt _ _ y'; omega
    · omega
  · have y := y.1
    have y' := y'.1
    rw [hP0] at y y'
    rcases y with y | ⟨j, y1, y2⟩ <;> rcases y' with y' | ⟨j', y1', y2'⟩
    · exact hb.2 _ _ _ y y'
    · have := hlt _ _ y; omega
    · have := hlt _ _ y'; omega
    · omega
  · show b < (outC (V c).2 I sd c (vin V Y'.1 0) Y'.2.1 Y'.2.2).2.2
    have y1 := y.1
    have y2 := y.2
    rw [hP0] at y1
    rw [k3] at y2
    rw [k4]
    rcases y1 with y | ⟨j, z1, z2⟩
    · have := hlt _ _ y; omega
    · omega
  · show rsm _ (rUp _ _ _ i) (rUp _ _ _ i)
    rcases Nat.decEq i c with hne | rfl
    · rw [rUp_n hne, rUp_n hne]; exact rsm_up up (hr i hi)
    · rw [rUp_s, rUp_s]
      obtain ⟨h1, h2, h3, h4, h5, h6, h7⟩ := hr i hi
      refine ⟨k1, ?_, ?_, rfl, fun j hj => ?_, rfl, fun n hn => ?_⟩
      · show (Y.1 (0 + i)).2.1 + 1 = (Y'.1 (0 + i)).2.1 + 1
        rw [Nat.zero_add, h2]
      · exact lK_mem2 k2 (fun n v v' hm y => ⟨rlt_cut y.1 (f3 n v hm).1, y.2⟩)
      · show (if j < 4 then I j else _) = (if j < 4 then I j else _)
        rw [if_pos hj, if_pos hj]
      · show oR _ (if n < 16 ∧ (rds (V i).2).testBit n = true then vin V Y.1 0 n else rW (Y.1 (0 + i)) n) (if n < 16 ∧ (rds (V i).2).testBit n = true then vin V Y'.1 0 n else rW (Y'.1 (0 + i)) n)
        split
        · exact oR_mono (oR_fst (vin_P hr n)) (fun _ _ _ y => rlt_mono up (fun _ y => y) y)
        · rw [Nat.zero_add]
          exact oR_mono (h7 n hn) (fun _ _ _ y => rlt_mono up (fun _ y => y) y)
/-- side by side, settling -/
def smS (S S' : Sl) : Prop := S.1 = S'.1 ∧ S.2.1 = S'.2.1 ∧ smY S.2.2 S'.2.2 ∧ 0 < S.2.2.2.2 ∧ ∃ F G, Rok F G S.2.2.2.1 1 S.2.2.1
theorem stS_P {S S' : Sl} {c : Nat} (hC : ∀ c, c < 12 → ∀ q, q ∈ (V c).2 → cdk q.2) (hc : c < 12) (h : smS S S') : smS (stS V I sd 0 c S) (stS V I sd 0 c S') := by
  obtain ⟨h1, h2, h3, hT, F, G, h4⟩ := h
  have es : sti V S.2.2.1 0 I sd c = sti V S'.2.2.1 0 I sd c := by
    obtain ⟨P, hb, -, hr⟩ := h3
    exact sti_P hb hr hc
  unfold stS
  rw [← h1, ← es]
  split
  · split
    · obtain ⟨F', G', k1, k2⟩ := Rok_on (F := F) (G := G) (bh := 1) (I := I) (sd := sd) (Y := S.2.2) hT hc (hC c hc) h4 (fun _ y => by cases y)
      exact ⟨rfl, by show S.2.1 + _ = S'.2.1 + _; rw [h2], rOn_P hc h3 h4, (by show 0 < (rOn V I sd 0 c S.2.2).2.2; rw [rOn_T]; omega), F', G', k2⟩
    · exact ⟨rfl, h2, h3, hT, F, G, h4⟩
  · exact ⟨h1, h2, h3, hT, F, G, h4⟩
theorem stl_P {w : Nat} {Y Y' : Yr} {F : Nat → Tr} {G : Gh} (hT : 0 < Y.2.2) (hC : ∀ c, c < 12 → ∀ q, q ∈ (V c).2 → cdk q.2) (h : smY Y Y') (hR : Rok F G Y.2.1 1 Y.1) : smS (stl V I sd 0 w Y) (stl V I sd 0 w Y') := by
  have round : ∀ S S', smS S S' → ∀ n, n ≤ 12 → smS (stR V I sd 0 n S) (stR V I sd 0 n S') := fun S S' hJ n => by
    induction n with
    | zero => exact fun _ => hJ
    | succ n ih => exact fun hn => stS_P hC (by omega) (ih (by omega))
  have all : ∀ r, smS (stT V I sd 0 r (w &&& vcl V 12, 0, Y)) (stT V I sd 0 r (w &&& vcl V 12, 0, Y')) := fun r => by
    induction r with
    | zero => exact ⟨rfl, rfl, h, hT, F, G, hR⟩
    | succ r ih => exact round _ _ ih 12 (Nat.le_refl _)
  exact all 12
theorem fgt_P {Y Y' : Yr} {c : Nat} (h : smY Y Y') : smY (fgt Y.1 c, Y.2) (fgt Y'.1 c, Y'.2) := by
  obtain ⟨P, hb, hlt, hr⟩ := h
  refine ⟨P, hb, hlt, fun i hi => ?_⟩
  show rsm P (fgt Y.1 c i) (fgt Y'.1 c i)
  unfold fgt
  obtain ⟨h1, h2, h3, h4, h5, h6, h7⟩ := id (hr i hi)
  split
  next g =>
    subst g
    exact ⟨rfl, rfl, trivial, rfl, h5, h6, h7⟩
  · exact hr i hi
/-- what is asked is answered alike -/
theorem stA_P (hb : bun P) (h : ∀ i, i < 12 → rsm P (RR i) (RR' i)) : ∀ n, n ≤ 12 → stA V RR 0 I sd n = stA V RR' 0 I sd n
  | 0, _ => rfl
  | n + 1, hn => by
    show (if (vcl V 12).testBit n = true ∧ sti V RR 0 I sd n = true then stA V RR 0 I sd n ||| 2 ^ n else stA V RR 0 I sd n) = (if (vcl V 12).testBit n = true ∧ sti V RR' 0 I sd n = true then stA V RR' 0 I sd n ||| 2 ^ n else stA V RR' 0 I sd n)
    rw [stA_P hb h n (by omega), sti_P hb h (show n < 12 by omega)]
end SM
def sim (A A' : Nb) : Prop := nP A = nP A' ∧ nV A = nV A' ∧ nM A = nM A' ∧ nIp A = nIp A' ∧ nS A = nS A' ∧ nO A = nO A' ∧ nB A = nB A' ∧ smY (nY A) (nY A')
theorem sim_st {A A' : Nb} (h : sim A A') : stl8 A = stl8 A' := by
  obtain ⟨h1, h2, h3, h4, h5, h6, h7, P, hb, -, hr⟩ := h
  unfold stl8
  rw [← h2, ← h4, ← h5, stA_P hb hr 12 (Nat.le_refl _)]
theorem sim_er {A A' : Nb} (h : sim A A') {c : Nat} (hc : c < 12) : ((nY A).1 c).1 = ((nY A').1 c).1 ∧ ((nY A).1 c).2.1 = ((nY A').1 c).2.1 ∧ ∀ n, knd (lkp n (rK ((nY A).1 c))) = knd (lkp n (rK ((nY A').1 c))) ∧ ∀ v, lkp n (rK ((nY A).1 c)) = some v → ∃ v', lkp n (rK ((nY A').1 c)) = some v' ∧ num v = num v' ∧ isC v = isC v' := by
  obtain ⟨h1, h2, h3, h4, h5, h6, h7, P, hb, -, hr⟩ := h
  obtain ⟨r1, r2, r3, -⟩ := hr c hc
  refine ⟨r1, r2, fun n => ?_⟩
  rcases lK_lkp (n := n) r3 with ⟨y1, y2⟩ | ⟨v, v', y1, y2, y3⟩
  · rw [y1, y2]
    exact ⟨rfl, fun v y => by cases y⟩
  · obtain ⟨f1, f2, -⟩ := rlt_f y3.1
    rw [y1, y2]
    refine ⟨?_, fun w y => by cases y; exact ⟨v', rfl, f2, f1⟩⟩
    rw [knd_s, knd_s, f1]
