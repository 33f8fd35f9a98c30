/-! All found anew. -/
def jA (V : Vr) (I : Nat → Int64) (sd : Int32) (Y0 : Yr) (S : Sl) : Prop :=
  (∀ i, i < 12 → S.2.2.1 i = Y0.1 i) ∧ bsb S.1 (vcl V 12) ∧ (∀ c, S.1.testBit c = true → (S.2.2.1 (12 + c)).1 = -1) ∧
  (∀ c, c < 12 → (V c).1 = true → ¬ S.1.testBit c = true → (wr V c = 0 → (∃ B' T' : Nat, (S.2.2.1 (12 + c)).1 = (outC (V c).2 I sd c (vin V S.2.2.1 12) B' T').1 ∧ rK (S.2.2.1 (12 + c)) = (outC (V c).2 I sd c (vin V S.2.2.1 12) B' T').2.1) ∧ ∀ c', (dim V c 16).testBit c' = true → ¬ S.1.testBit c' = true) ∧ (¬ wr V c = 0 → (S.2.2.1 (12 + c)).1 = i32 (wr V c) ∧ rK (S.2.2.1 (12 + c)) = [])) ∧ Y0.2.1 ≤ S.2.2.2.1
theorem mRn_B {I : Nat → Int64} {sd : Int32} {cl rid : Nat} : ∀ (n : Nat) (M : Mt), M.2.2.2.2 ≤ (mRn I sd cl rid n M).2.2.2.2.2
  | 0, M => Nat.le_refl _
  | n + 1, ([], Y) => by rw [mRn_nil]; exact Nat.le_refl _
  | n + 1, (p :: r, Y) => by
    rw [mRn_cons]
    cases hk : mTn I sd cl rid (p :: r, Y) with
    | none => exact Nat.le_refl _
    | some M' =>
      refine Nat.le_trans ?_ (mRn_B n M')
      have hs : (if isL p.1 = true then none else if p.2.2 = true then mEn sd cl rid p.1 p.2.1 (r, Y) else mBg I rid p.1 p.2.1 (r, Y)) = some M' := hk
      have g : gcl rid (fun _ => True) (fun _ => True) := ⟨fun _ => trivial, fun _ _ _ => trivial, fun _ _ _ _ _ => trivial, fun _ _ _ _ _ => trivial⟩
      split at hs
      · cases hs
      split at hs
      · exact Nat.le_of_eq (mEn_G g trivial ⟨fun _ _ => trivial, fun _ _ => trivial⟩ hs).2.symm
      · rcases mBg_G g trivial ⟨fun _ _ => trivial, fun _ _ => trivial⟩ hs with ⟨-, k2⟩ | ⟨M1, -, k2, k3, -⟩
        · exact Nat.le_of_eq k2.symm
        · rw [k3]
          have k2 : M1.2.2.2.2 = Y.2.2.2 := k2
          show Y.2.2.2 ≤ M1.2.2.2.2 + 1
          omega
theorem rnL_B {I : Nat → Int64} {sd : Int32} {cl rid : Nat} : ∀ (C : Cd) (s : Tr) (K : Cd) (sp dr B : Nat), B ≤ (rnL I sd cl rid C s K sp dr B).2
  | [], _, _, _, _, _ => Nat.le_refl _
  | q :: C, s, K, sp, dr, B => by
    have h := mRn_B (I := I) (sd := sd) (cl := cl) (rid := rid) 700 ([(q.2, s, false)], [], sp, dr, B)
    unfold rnL
    split
    · exact Nat.le_trans h (rnL_B C _ _ _ _ _)
    · exact h
theorem outC_B {C : Cd} {I : Nat → Int64} {sd : Int32} {cl B rid : Nat} {W : Nat → Option Tr} : B ≤ (outC C I sd cl W B rid).2.2 := by
  have h := rnL_B (I := I) (sd := sd) (cl := cl) (rid := rid) C (enW (rds C) W rid 16).1 [] 0 0 B
  unfold outC
  split
  · split
    · exact h
    · exact h
  · exact Nat.le_refl _
theorem jA_step {V : Vr} {I : Nat → Int64} {sd : Int32} {Y0 : Yr} : ∀ c S, c < 12 → jA V I sd Y0 S → S.1.testBit c = true → (wr V c = 0 → ∀ c', (dim V c 16).testBit c' = true → S.1.testBit c' = false) → jA V I sd Y0 (stS V I sd 12 c S) := by
  intro c S hc hj hb hd
  obtain ⟨a1, a2, a3, a4, a5⟩ := hj
  have hcon : S.1.testBit c = true ∧ ¬ (wr V c = 0 ∧ ¬ dim V c 16 &&& S.1 = 0) := ⟨hb, fun y => by
    obtain ⟨c', w1, w2⟩ := ne_and y.2
    rw [hd y.1 c' w1] at w2
    cases w2⟩
  have wb : ∀ x, (nb_wo S.1 (2 ^ c)).testBit x = true ↔ S.1.testBit x = true ∧ ¬ x = c := fun x => by
    rw [wo2_bit, Bool.and_eq_true]
    constructor
    · rintro ⟨y1, y2⟩
      refine ⟨y1, fun y => ?_⟩
      rw [y] at y2
      simp at y2
    · rintro ⟨y1, y2⟩
      refine ⟨y1, ?_⟩
      have : ¬ c = x := fun y => y2 y.symm
      simp [this]
  have hs : sti V S.2.2.1 12 I sd c = true := by
    apply Classical.byContradiction
    intro hn
    have hn := Bool.eq_false_iff.mpr hn
    rcases Nat.decEq (wr V c) 0 with hw | hw
    · have h1 := (sti_w hw).mp hn
      rw [a3 c hb] at h1
      have := wr_le V c
      rcases (show wr V c = 1 ∨ wr V c = 2 ∨ wr V c = 3 by omega) with h | h | h <;> rw [h] at h1 <;> exact absurd h1 (by decide)
    · exact ((sti_r hw).mp hn).1 (Or.inl (a3 c hb))
  have e0 : stS V I sd 12 c S = (nb_wo S.1 (2 ^ c), S.2.1 + rOr V c, rOn V I sd 12 c S.2.2) := (if_pos hcon).trans (if_pos hs)
  rw [e0]
  have same : ∀ x, ¬ x = 12 + c → (rOn V I sd 12 c S.2.2).1 x = S.2.2.1 x := fun x hx => rOn_o hx
  refine ⟨fun i hi => (same i (by omega)).trans (a1 i hi), fun x y => a2 x ((wb x).mp y).1, fun x y => ?_, fun x hx ht hp => ?_, ?_⟩
  · have y := (wb x).mp y
    show ((rOn V I sd 12 c S.2.2).1 (12 + x)).1 = -1
    rw [same _ (by omega)]
    exact a3 x y.1
  · show (wr V x = 0 → (∃ B' T' : Nat, ((rOn V I sd 12 c S.2.2).1 (12 + x)).1 = (outC (V x).2 I sd x (vin V (rOn V I sd 12 c S.2.2).1 12) B' T').1 ∧ rK ((rOn V I sd 12 c S.2.2).1 (12 + x)) = (outC (V x).2 I sd x (vin V (rOn V I sd 12 c S.2.2).1 12) B' T').2.1) ∧ ∀ c', (dim V x 16).testBit c' = true → ¬ (nb_wo S.1 (2 ^ c)).testBit c' = true) ∧ (¬ wr V x = 0 → ((rOn V I sd 12 c S.2.2).1 (12 + x)).1 = i32 (wr V x) ∧ rK ((rOn V I sd 12 c S.2.2).1 (12 + x)) = [])
    have vsame : wr V x = 0 → ¬ (dim V x 16).testBit c = true → ∀ k, k < 16 → (rds (V x).2).testBit k = true → vin V (rOn V I sd 12 c S.2.2).1 12 k = vin V S.2.2.1 12 k := fun _ hnd k hk hbk => vin_same hk hbk (fun c' hd' => same _ (fun y => hnd (by rw [show c = c' by omega]; exact hd')))
    rcases Nat.decEq x c with hne | rfl
    · have hp' : ¬ S.1.testBit x = true := fun y => hp ((wb x).mpr ⟨y, hne⟩)
      obtain ⟨k1, k2⟩ := a4 x hx ht hp'
      rw [same _ (by omega)]
      refine ⟨fun hw => ?_, k2⟩
      obtain ⟨⟨B', T', y1, y2⟩, y3⟩ := k1 hw
      have hnd : ¬ (dim V x 16).testBit c = true := fun y => y3 c y hb
      refine ⟨⟨B', T', ?_⟩, fun c' hc' y => y3 c' hc' ((wb c').mp y).1⟩
      rw [outC_cong (vsame hw hnd)]
      exact ⟨y1, y2⟩
    · refine ⟨fun hw => ⟨⟨S.2.2.2.1, S.2.2.2.2, ?_⟩, (fun c' hc' y => (by have := ((wb c').mp y).1; rw [hd hw c' hc'] at this; cases this))⟩, fun hw => ?_⟩
      · have hnd : ¬ (dim V x 16).testBit x = true := fun y => by rw [hd hw x y] at hb; cases hb
        rw [outC_cong (vsame hw hnd), rOn_right hw]
        show (rUp _ _ _ _).1 = _ ∧ rK (rUp _ _ _ _) = _
        rw [rUp_s]
        exact ⟨rfl, rfl⟩
      · rcases rOn_cases V I sd 12 x S.2.2 with ⟨-, e⟩ | ⟨y, -⟩ | ⟨y, -⟩
        · rw [e]
          show (rUp _ _ _ _).1 = _ ∧ rK (rUp _ _ _ _) = _
          rw [rUp_s]
          exact ⟨rfl, rfl⟩
        · exact absurd y hw
        · exact absurd y hw
  · refine Nat.le_trans a5 ?_
    show S.2.2.2.1 ≤ (rOn V I sd 12 c S.2.2).2.1
    rcases Nat.decEq (wr V c) 0 with hw | hw
    · rcases rOn_cases V I sd 12 c S.2.2 with ⟨-, e⟩ | ⟨y, -⟩ | ⟨y, -⟩
      · rw [e]; exact Nat.le_refl _
      · exact absurd y hw
      · exact absurd y hw
    · rw [rOn_right hw]
      exact outC_B
theorem fga_i {RR : Nat → Rs} {st0 : Nat} : ∀ n i, (i < st0 → fga RR st0 n i = RR i) ∧ (st0 ≤ i → i < st0 + n → (fga RR st0 n i).1 = -1 ∧ rK (fga RR st0 n i) = [])
  | 0, i => ⟨fun _ => rfl, fun h1 h2 => by omega⟩
  | n + 1, i => by
    obtain ⟨h1, h2⟩ := fga_i (RR := RR) (st0 := st0) n i
    have e : fga RR st0 (n + 1) i = fgt (fga RR st0 n) (st0 + n) i := rfl
    rw [e]
    unfold fgt
    refine ⟨fun h => ?_, fun h3 h4 => ?_⟩
    · rw [if_neg (by omega)]; exact h1 h
    · split
      · exact ⟨rfl, rfl⟩
      · exact h2 h3 (by omega)
/-- what finding all anew comes to -/
theorem anew_main {V : Vr} {I : Nat → Int64} {sd : Int32} {RR : Nat → Rs} {Z : Nat × Nat} : anw0 V I sd (fun i => (stl V I sd 12 4095 (fga RR 12 12, Z)).2.2.1 (12 + i)) ∧ (∀ i, i < 12 → (stl V I sd 12 4095 (fga RR 12 12, Z)).2.2.1 i = RR i) ∧ Z.1 ≤ (stl V I sd 12 4095 (fga RR 12 12, Z)).2.2.2.1 := by
  have hcl : ∀ c, (4095 &&& vcl V 12).testBit c = (vcl V 12).testBit c := fun c => by
    rw [Nat.testBit_and]
    have : (4095 : Nat) = 2 ^ 12 - 1 := rfl
    rw [this, Nat.testBit_two_pow_sub_one, vcl_bit]
    cases decide (c < 12) <;> rfl
  have j0 : jA V I sd (fga RR 12 12, Z) (4095 &&& vcl V 12, 0, (fga RR 12 12, Z)) := by
    refine ⟨fun _ _ => rfl, fun i y => (hcl i).symm.trans y, fun c y => ?_, fun c hc ht hp => ?_, Nat.le_refl _⟩
    · have y : (4095 &&& vcl V 12).testBit c = true := y
      rw [hcl, vcl_bit, Bool.and_eq_true] at y
      have := of_decide_eq_true y.1
      exact ((fga_i 12 (12 + c)).2 (by omega) (by omega)).1
    · have hp : ¬ (4095 &&& vcl V 12).testBit c = true := hp
      rw [hcl, vcl_bit, ht, decide_eq_true hc] at hp
      exact absurd rfl hp
  obtain ⟨⟨a1, a2, a3, a4, a5⟩, h0⟩ := stl_ind (V := V) (I := I) (sd := sd) (st0 := 12) (w := 4095) (Y := (fga RR 12 12, Z)) (jA V I sd (fga RR 12 12, Z)) j0 jA_step
  obtain ⟨S, hS⟩ : ∃ S, S = stl V I sd 12 4095 (fga RR 12 12, Z) := ⟨_, rfl⟩
  rw [← hS] at a1 a2 a3 a4 a5 h0 ⊢
  have p0 : ∀ x, ¬ S.1.testBit x = true := fun x y => by rw [h0, Nat.zero_testBit] at y; cases y
  have ev : vin V (fun i => S.2.2.1 (12 + i)) 0 = vin V S.2.2.1 12 := by
    funext n
    unfold vin src
    cases ow V n 12 with
    | none => rfl
    | some c => 
      dsimp only
      rw [Nat.zero_add]
      split
      · show lkp n (rK (S.2.2.1 (12 + (0 + c)))) = lkp n (rK (S.2.2.1 (12 + c)))
        rw [Nat.zero_add]
      · rfl
  refine ⟨fun c hc ht => ?_, fun i hi => (a1 i hi).trans ((fga_i 12 i).1 hi), a5⟩
  rw [ev]
  obtain ⟨k1, k2⟩ := a4 c hc ht (p0 c)
  exact ⟨fun hw => (k1 hw).1, k2⟩
