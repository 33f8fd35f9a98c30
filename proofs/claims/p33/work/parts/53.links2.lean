/-! Links: its methods. -/
section LW
variable {SC : List Value} {d q : Nat} {h : re_H} {Q : Nat → Value → re_H → Prop} {l v : Nat} {V : Vr} {F : Nat → Nat → Int32}
theorem inVL {l v a : Nat} (hv : v + 39 ≤ l ∨ l + 7 ≤ v) (z : inV v a) : ¬ inL l a := fun y => by unfold inV at z; unfold inL at y; omega
theorem c194 (hv : v + 39 ≤ l ∨ l + 7 ≤ v) (c : lkr h l v F) (vv : vr h v V) (K : ∀ h' F', lkr h' l v F' → (∀ n, n < 16 → F' 1 n = i32 (dfm V n 12) ∧ F' 2 n = oI (ow V n 12)) → (∀ j i, 3 ≤ j → F' j i = F j i) → mo (inL l) 0 h h' → Q 0 .null h') : wp SC 194 d q 0 [(0, .ref l)] [] h Q := by
  have p16 : (2 : Nat) ^ 16 = 65536 := by decide
  have main : ∀ k i : Nat, i + k = 12 → ∀ h1 F1, lkr h1 l v F1 → (∀ n, n < 16 → F1 1 n = i32 (dfm V n i) ∧ F1 2 n = oI (ow V n i)) → (∀ j i, 3 ≤ j → F1 j i = F j i) → mo (inL l) 0 h h1 → wp SC 194 d q 30 [(0, .ref l), (1, .int (i32 i))] [] h1 Q := by
    intro k
    induction k with
    | zero =>
      intro i hi h1 F1 c1 f1 f2 m1
      cases (show i = 12 by omega)
      exact B194_30 (fun _ => B194_111 (K h1 F1 c1 f1 f2 m1)) (fun g => absurd ((i3_lt (by omega) (by omega)).mp g) (by omega))
    | succ k ih =>
      intro i hi h1 F1 c1 f1 f2 m1
      refine B194_30 (fun g => absurd ((i3_lt (by omega) (by omega)).mpr (by omega)) g) (fun _ => ?_)
      have v1 := vr_mo m1 (fun a z => inVL hv z) (vr_top vv) vv
      refine B194_36 ⟨_, c1.1, rfl⟩ ⟨_, v1.1, rfl⟩ ⟨_, i, v1.2.2.1, rfl, by omega, lst_get _ (by omega)⟩ ?_
      have hC : (V i).2.length ≤ 4 := by obtain ⟨ns, es, -, -, -, c4⟩ := v1.2.2.2 i (by omega); exact c4.1
      -- within a cell
      have inner : ∀ k2 j : Nat, j + k2 = (V i).2.length → ∀ h2 F2, lkr h2 l v F2 → (∀ n, n < 16 → F2 1 n = i32 (dfm V n i ||| (if cnt n ((V i).2.take j) = 0 then 0 else 2 ^ i)) ∧ F2 2 n = oI (if cnt n ((V i).2.take j) = 0 then ow V n i else if cnt n ((V i).2.take j) = 1 ∧ dfm V n i = 0 then some i else none)) → (∀ j i, 3 ≤ j → F2 j i = F j i) → mo (inL l) 0 h h2 → wp SC 194 d q 48 [(0, .ref l), (1, .int (i32 i)), (2, .ref (v + 3 + 3 * i)), (3, .int (i32 j))] [] h2 Q := by
        intro k2
        induction k2 with
        | zero =>
          intro j hj h2 F2 c2 g1 g2 m2
          have v2 := vr_mo m2 (fun a z => inVL hv z) (vr_top vv) vv
          obtain ⟨ns, es, r1, r2, r3, r4⟩ := v2.2.2.2 i (by omega)
          refine B194_48 ⟨_, r1.1, rfl⟩ (fun _ => B194_105 ?_) (fun g => absurd ((i3_lt (by omega) (by omega)).mp g) (by omega))
          rw [i3_add]
          refine ih (i + 1) (by omega) h2 F2 c2 (fun n hn => ?_) g2 m2
          have := g1 n hn
          rw [List.take_of_length_le (by omega)] at this
          rw [this.1, this.2]
          refine ⟨?_, rfl⟩
          rw [dfm_s, dfd_bit]
          by_cases hz : cnt n (V i).2 = 0 <;> simp [hz]
        | succ k2 ih2 =>
          intro j hj h2 F2 c2 g1 g2 m2
          have v2 := vr_mo m2 (fun a z => inVL hv z) (vr_top vv) vv
          obtain ⟨ns, es, r1, r2, r3, r4⟩ := v2.2.2.2 i (by omega)
          obtain ⟨⟨n, e⟩, hq⟩ := getl (C := (V i).2) (i := j) (by omega)
          obtain ⟨y1, y2, b, y3, y4, y5⟩ := r4.2 j n e hq
          have htk : (V i).2.take (j + 1) = (V i).2.take j ++ [(n, e)] := by rw [List.take_add_one, hq]; rfl
          obtain ⟨gn1, gn2⟩ := g1 n y2
          have hdl := dfm_lt V n i
          have hd12 : dfm V n i < 2 ^ 12 := Nat.lt_of_lt_of_le hdl (Nat.pow_le_pow_right (by omega) (by omega))
          have hp12 : 2 ^ i < 2 ^ 12 := Nat.pow_lt_pow_right (by omega) (by omega)
          have hval : dfm V n i ||| (if cnt n ((V i).2.take j) = 0 then 0 else 2 ^ i) < 2 ^ 12 := Nat.or_lt_two_pow hd12 (by split <;> omega)
          refine B194_48 ⟨_, r1.1, rfl⟩ (fun g => absurd ((i3_lt (by omega) (by omega)).mpr (by omega)) g) (fun _ => ?_)
          -- the owner is written, then the definers
          have go : ∀ o : Option Nat, o = (if cnt n ((V i).2.take j) = 0 ∧ dfm V n i = 0 then some i else none) → wp SC 194 d q 85 [(0, .ref l), (1, .int (i32 i)), (2, .ref (v + 3 + 3 * i)), (3, .int (i32 j)), (4, .int (i32 n))] [.int (oI o), .int (i32 n), .ref (l + 2)] h2 Q := by
            intro o ho
            refine B194_85 (c2.2 2 (by omega) (by omega)) rfl (by omega) (by rw [lst_len]; show n < 16; exact y2) ?_
            obtain ⟨c3, m3⟩ := lkr_w c2 (j := 2) (by omega) (by omega) n (oI o)
            refine B194_86 (ae1 := l + 1) ⟨_, c3.1, rfl⟩ (lkr_at c3 (j := 1) (by omega) (by omega) rfl (show n < 16 from y2)) (c3.2 1 (by omega) (by omega)) rfl (by omega) (by rw [lst_len]; show n < 16; exact y2) (B194_99 ?_)
            rw [i3_add]
            obtain ⟨c4, m4⟩ := lkr_w c3 (j := 1) (by omega) (by omega) n ((fup F2 2 n (oI o)) 1 n ||| i32 1 <<< (i32 i &&& 31))
            refine ih2 (j + 1) (by omega) _ _ c4 (fun n' hn' => ?_) (fun j' i' h' => ?_) (mo_tr m2 (mo_tr m3 m4 (Nat.le_refl 0)) (Nat.le_refl 0))
            · obtain ⟨gn1', gn2'⟩ := g1 n' hn'
              by_cases hnn : n' = n
              · subst hnn
                have hc : cnt n' ((V i).2.take (j + 1)) = cnt n' ((V i).2.take j) + 1 := by rw [htk, cnt_app]; simp
                have e0 : ¬ cnt n' ((V i).2.take (j + 1)) = 0 := by omega
                have h1 : fup (fup F2 2 n' (oI o)) 1 n' ((fup F2 2 n' (oI o)) 1 n' ||| i32 1 <<< (i32 i &&& 31)) 1 n' = F2 1 n' ||| i32 1 <<< (i32 i &&& 31) := by unfold fup; simp
                have h2 : fup (fup F2 2 n' (oI o)) 1 n' ((fup F2 2 n' (oI o)) 1 n' ||| i32 1 <<< (i32 i &&& 31)) 2 n' = oI o := by unfold fup; simp
                rw [h1, h2, gn1, i3_shl (by omega), i3_or, if_neg e0, if_neg e0]
                refine ⟨?_, ?_⟩
                · congr 1
                  by_cases hz : cnt n' ((V i).2.take j) = 0
                  · rw [if_pos hz, Nat.or_zero]
                  · rw [if_neg hz, Nat.or_assoc, Nat.or_self]
                · rw [ho, hc]
                  by_cases hz : cnt n' ((V i).2.take j) = 0 <;> by_cases hy : dfm V n' i = 0 <;> simp [hz, hy]
              · have hc : cnt n' ((V i).2.take (j + 1)) = cnt n' ((V i).2.take j) := by rw [htk, cnt_app, if_neg (fun y => hnn y.symm)]; rfl
                have h1 : fup (fup F2 2 n (oI o)) 1 n ((fup F2 2 n (oI o)) 1 n ||| i32 1 <<< (i32 i &&& 31)) 1 n' = F2 1 n' := by unfold fup; simp [hnn]
                have h2 : fup (fup F2 2 n (oI o)) 1 n ((fup F2 2 n (oI o)) 1 n ||| i32 1 <<< (i32 i &&& 31)) 2 n' = F2 2 n' := by unfold fup; simp [hnn]
                rw [h1, h2, hc]
                exact ⟨gn1', gn2'⟩
            · unfold fup
              rw [if_neg (fun y => by omega), if_neg (fun y => by omega)]
              exact g2 j' i' h'
          refine B194_56 (ae7 := l + 1) ⟨_, r1.1, rfl⟩ ⟨_, j, r1.2.1, rfl, by omega, y1⟩ ⟨_, c2.1, rfl⟩ ⟨_, c2.1, rfl⟩ (lkr_at c2 (j := 1) (by omega) (by omega) rfl (show n < 16 from y2)) (fun g => B194_84 (go none ?_)) (fun g => B194_80 (go (some i) ?_))
          · rw [gn1] at g
            rw [if_neg (fun y => g (by rw [y.1, y.2]; simp; rfl))]
          · rw [gn1] at g
            have g' := (i3_zero (by omega)).mp g
            have hd0 : dfm V n i = 0 := by
              have := Nat.left_le_or (n := dfm V n i) (m := if cnt n ((V i).2.take j) = 0 then 0 else 2 ^ i)
              omega
            have hc0 : cnt n ((V i).2.take j) = 0 := by
              by_cases hz : cnt n ((V i).2.take j) = 0
              · exact hz
              · rw [if_neg hz] at g'
                have := Nat.right_le_or (n := dfm V n i) (m := 2 ^ i)
                have := Nat.two_pow_pos i
                omega
            rw [if_pos ⟨hc0, hd0⟩]
      refine inner (V i).2.length 0 (by omega) h1 F1 c1 (fun n hn => ?_) f2 m1
      rw [List.take_zero]
      have h0 : cnt n ([] : Cd) = 0 := rfl
      rw [if_pos h0, if_pos h0, Nat.or_zero]
      exact f1 n hn
  have clr : ∀ k i : Nat, i + k = 16 → ∀ h1 F1, lkr h1 l v F1 → (∀ n, n < i → F1 1 n = i32 0 ∧ F1 2 n = -1) → (∀ j i, 3 ≤ j → F1 j i = F j i) → mo (inL l) 0 h h1 → wp SC 194 d q 2 [(0, .ref l), (1, .int (i32 i))] [] h1 Q := by
    intro k
    induction k with
    | zero =>
      intro i hi h1 F1 c1 f1 f2 m1
      cases (show i = 16 by omega)
      refine B194_2 (fun _ => B194_28 (main 12 0 rfl h1 F1 c1 (fun n hn => f1 n hn) f2 m1)) (fun g => absurd ((i3_lt (by omega) (by omega)).mp g) (by omega))
    | succ k ih =>
      intro i hi h1 F1 c1 f1 f2 m1
      refine B194_2 (fun g => absurd ((i3_lt (by omega) (by omega)).mpr (by omega)) g) (fun _ => ?_)
      refine B194_8 (ae1 := l + 1) ⟨_, c1.1, rfl⟩ (c1.2 1 (by omega) (by omega)) rfl (by omega) (by rw [lst_len]; show i < 16; omega) ?_
      obtain ⟨c2, m2⟩ := lkr_w c1 (j := 1) (by omega) (by omega) i (i32 0)
      refine B194_15 (ae1 := l + 2) ⟨_, c2.1, rfl⟩ (c2.2 2 (by omega) (by omega)) rfl (by omega) (by rw [lst_len]; show i < 16; omega) (B194_22 ?_)
      obtain ⟨c3, m3⟩ := lkr_w c2 (j := 2) (by omega) (by omega) i (-1)
      rw [i3_add]
      refine ih (i + 1) (by omega) _ _ c3 (fun n hn => ?_) (fun j' i' h' => ?_) (mo_tr m1 (mo_tr m2 m3 (Nat.le_refl 0)) (Nat.le_refl 0))
      · unfold fup
        by_cases hni : n = i
        · simp [hni]
        · have := f1 n (by omega)
          simp [hni, this]
      · unfold fup
        rw [if_neg (fun y => by omega), if_neg (fun y => by omega)]
        exact f2 j' i' h'
  exact B194_0 (clr 16 0 rfl h F c (fun n hn => by omega) (fun _ _ _ => rfl) mo_rf)
theorem c195 (hv : v + 39 ≤ l ∨ l + 7 ≤ v) (c : lkr h l v F) (vv : vr h v V) (hF : ∀ n, n < 16 → F 1 n = i32 (dfm V n 12)) (K : ∀ h' F', lkr h' l v F' → (∀ j i, j ≤ 2 → F' j i = F j i) → (∀ c, c < 12 → F' 3 c = i32 (rds (V c).2) ∧ F' 4 c = i32 (dim V c 16)) → mo (inL l) 0 h h' → Q 0 .null h') : wp SC 195 (d + 1) q 0 [(0, .ref l)] [] h Q := by
  have main : ∀ k i : Nat, i + k = 12 → ∀ h1 F1, lkr h1 l v F1 → (∀ j i, j ≤ 2 → F1 j i = F j i) → (∀ c, c < i → F1 3 c = i32 (rds (V c).2) ∧ F1 4 c = i32 (dim V c 16)) → mo (inL l) 0 h h1 → wp SC 195 (d + 1) q 2 [(0, .ref l), (1, .int (i32 i))] [] h1 Q := by
    intro k
    induction k with
    | zero =>
      intro i hi h1 F1 c1 f1 f2 m1
      cases (show i = 12 by omega)
      exact B195_2 (fun _ => B195_82 (K h1 F1 c1 f1 f2 m1)) (fun g => absurd ((i3_lt (by omega) (by omega)).mp g) (by omega))
    | succ k ih =>
      intro i hi h1 F1 c1 f1 f2 m1
      refine B195_2 (fun g => absurd ((i3_lt (by omega) (by omega)).mpr (by omega)) g) (fun _ => ?_)
      have v1 := vr_mo m1 (fun a z => inVL hv z) (vr_top vv) vv
      have ci := v1.2.2.2 i (by omega)
      have hr := rds_lt ci
      obtain ⟨w, hw⟩ := cd_hg ci
      refine B195_8 (ae1 := l + 3) ⟨_, c1.1, rfl⟩ ⟨_, c1.1, rfl⟩ ⟨_, v1.1, rfl⟩ ⟨_, i, v1.2.2.1, rfl, by omega, lst_get _ (by omega)⟩ hw rfl (c129 ci (ret1 ?_))
      refine B195_25 (c1.2 3 (by omega) (by omega)) rfl (by omega) (by rw [lst_len]; show i < 12; omega) ?_
      obtain ⟨c2, m2⟩ := lkr_w c1 (j := 3) (by omega) (by omega) i (i32 (rds (V i).2))
      refine B195_26 (ae1 := l + 4) ⟨_, c2.1, rfl⟩ (c2.2 4 (by omega) (by omega)) rfl (by omega) (by rw [lst_len]; show i < 12; omega) (B195_33 ?_)
      obtain ⟨c3, m3⟩ := lkr_w c2 (j := 4) (by omega) (by omega) i (i32 0)
      have inner : ∀ k2 n : Nat, n + k2 = 16 → ∀ h2 F2, lkr h2 l v F2 → (∀ j i, j ≤ 2 → F2 j i = F j i) → (∀ c, c < i → F2 3 c = i32 (rds (V c).2) ∧ F2 4 c = i32 (dim V c 16)) → F2 3 i = i32 (rds (V i).2) → F2 4 i = i32 (dim V i n) → mo (inL l) 0 h h2 → wp SC 195 (d + 1) q 35 [(0, .ref l), (1, .int (i32 i)), (2, .int (i32 n))] [] h2 Q := by
        intro k2
        induction k2 with
        | zero =>
          intro n hn h2 F2 c2 g1 g2 g3 g4 m2
          cases (show n = 16 by omega)
          refine B195_35 (fun _ => B195_76 ?_) (fun g => absurd ((i3_lt (by omega) (by omega)).mp g) (by omega))
          rw [i3_add]
          refine ih (i + 1) (by omega) h2 F2 c2 g1 (fun c hc => ?_) m2
          rcases Nat.decEq c i with hne | rfl
          · exact g2 c (by omega)
          · exact ⟨g3, g4⟩
        | succ k2 ih2 =>
          intro n hn h2 F2 c2 g1 g2 g3 g4 m2
          refine B195_35 (fun g => absurd ((i3_lt (by omega) (by omega)).mpr (by omega)) g) (fun _ => ?_)
          have e3 := lkr_at c2 (j := 3) (i := i) (by omega) (by omega) rfl (show i < 12 by omega)
          rw [g3] at e3
          have ds : dim V i (n + 1) = dim V i n ||| (if (rds (V i).2).testBit n then dfm V n 12 else 0) := rfl
          refine B195_41 (ae1 := l + 3) ⟨_, c2.1, rfl⟩ e3 (fun g => B195_70 ?_) (fun g => ?_)
          · rw [i3_bit (by omega) (by omega)] at g
            have ht : (rds (V i).2).testBit n = false := by
              cases ht : (rds (V i).2).testBit n with
              | false => rfl
              | true => rw [ht] at g; exact absurd rfl g
            rw [i3_add]
            exact ih2 (n + 1) (by omega) h2 F2 c2 g1 g2 g3 (by rw [g4, ds, ht]; simp) m2
          · rw [i3_bit (by omega) (by omega)] at g
            have ht : (rds (V i).2).testBit n = true := by
              cases ht : (rds (V i).2).testBit n with
              | true => rfl
              | false => rw [ht] at g; exact absurd g (by decide)
            have e4 := lkr_at c2 (j := 4) (i := i) (by omega) (by omega) rfl (show i < 12 by omega)
            have e1 := lkr_at c2 (j := 1) (i := n) (by omega) (by omega) rfl (show n < 16 by omega)
            refine B195_55 (ae1 := l + 4) (ae5 := l + 1) ⟨_, c2.1, rfl⟩ e4 ⟨_, c2.1, rfl⟩ e1 (c2.2 4 (by omega) (by omega)) rfl (by omega) (by rw [lst_len]; show i < 12; omega) (B195_70 ?_)
            rw [i3_add]
            obtain ⟨c3, m3⟩ := lkr_w c2 (j := 4) (by omega) (by omega) i (F2 4 i ||| F2 1 n)
            refine ih2 (n + 1) (by omega) _ _ c3 (fun j i' hj => ?_) (fun c hc => ?_) ?_ ?_ (mo_tr m2 m3 (Nat.le_refl 0))
            · unfold fup; rw [if_neg (fun y => by omega)]; exact g1 j i' hj
            · unfold fup; rw [if_neg (fun y => by omega), if_neg (fun y => by omega)]; exact g2 c hc
            · unfold fup; rw [if_neg (fun y => by omega)]; exact g3
            · unfold fup; rw [if_pos ⟨rfl, rfl⟩, g4, g1 1 n (by omega), hF n (by omega), i3_or, ds, ht]; simp
      refine inner 16 0 rfl _ _ c3 (fun j i' hj => ?_) (fun c hc => ?_) ?_ ?_ (mo_tr m1 (mo_tr m2 m3 (Nat.le_refl 0)) (Nat.le_refl 0))
      · unfold fup; rw [if_neg (fun y => by omega), if_neg (fun y => by omega)]; exact f1 j i' hj
      · unfold fup; rw [if_neg (fun y => by omega), if_neg (fun y => by omega), if_neg (fun y => by omega), if_neg (fun y => by omega)]; exact f2 c hc
      · unfold fup; rw [if_neg (fun y => by omega), if_pos ⟨rfl, rfl⟩]
      · unfold fup; rw [if_pos ⟨rfl, rfl⟩]; rfl
  exact B195_0 (main 12 0 rfl h F c (fun _ _ _ => rfl) (fun c hc => by omega) mo_rf)
theorem c196 (c : lkr h l v F) (hF : ∀ c, c < 12 → F 4 c = i32 (dim V c 16)) (K : ∀ h' F', lkr h' l v F' → (∀ j i, ¬ j = 5 → F' j i = F j i) → (∀ c, c < 12 → F' 5 c = i32 (wn V 12 c)) → mo (inL l) 0 h h' → Q 0 .null h') : wp SC 196 d q 0 [(0, .ref l)] [] h Q := by
  have main : ∀ k o : Nat, o + k = 12 → ∀ h1 F1, lkr h1 l v F1 → (∀ j i, ¬ j = 5 → F1 j i = F j i) → (∀ c, c < 12 → F1 5 c = i32 (wn V o c)) → mo (inL l) 0 h h1 → wp SC 196 d q 28 [(0, .ref l), (1, .int (i32 o))] [] h1 Q := by
    intro k
    induction k with
    | zero =>
      intro o ho h1 F1 c1 f1 f2 m1
      cases (show o = 12 by omega)
      exact B196_28 (fun _ => B196_83 (K h1 F1 c1 f1 f2 m1)) (fun g => absurd ((i3_lt (by omega) (by omega)).mp g) (by omega))
    | succ k ih =>
      intro o ho h1 F1 c1 f1 f2 m1
      refine B196_28 (fun g => absurd ((i3_lt (by omega) (by omega)).mpr (by omega)) g) (fun _ => B196_34 ?_)
      have inner : ∀ k2 i : Nat, i + k2 = 12 → ∀ h2 F2, lkr h2 l v F2 → (∀ j i, ¬ j = 5 → F2 j i = F j i) → (∀ c, c < 12 → F2 5 c = i32 (if c < i then wst o (wn V o) c else wn V o c)) → mo (inL l) 0 h h2 → wp SC 196 d q 36 [(0, .ref l), (1, .int (i32 o)), (2, .int (i32 i))] [] h2 Q := by
        intro k2
        induction k2 with
        | zero =>
          intro i hi h2 F2 c2 g1 g2 m2
          cases (show i = 12 by omega)
          refine B196_36 (fun _ => B196_77 ?_) (fun g => absurd ((i3_lt (by omega) (by omega)).mp g) (by omega))
          rw [i3_add]
          exact ih (o + 1) (by omega) h2 F2 c2 g1 (fun c hc => by rw [g2 c hc, if_pos hc]; rfl) m2
        | succ k2 ih2 =>
          intro i hi h2 F2 c2 g1 g2 m2
          refine B196_36 (fun g => absurd ((i3_lt (by omega) (by omega)).mpr (by omega)) g) (fun _ => ?_)
          have e5 := lkr_at c2 (j := 5) (i := i) (by omega) (by omega) rfl (show i < 12 by omega)
          have g5 := g2 i (by omega)
          rw [if_neg (by omega)] at g5
          rw [g5] at e5
          have hw := wn_lt V o i
          refine B196_42 (ae1 := l + 5) ⟨_, c2.1, rfl⟩ e5 (fun g => B196_71 ?_) (fun g => ?_)
          · rw [i3_bit (by omega) (by omega)] at g
            have ht : (wn V o i).testBit o = false := by
              cases ht : (wn V o i).testBit o with
              | false => rfl
              | true => rw [ht] at g; exact absurd rfl g
            rw [i3_add]
            refine ih2 (i + 1) (by omega) h2 F2 c2 g1 (fun c hc => ?_) m2
            rw [g2 c hc]
            rcases Nat.decEq c i with hne | rfl
            · by_cases h9 : c < i
              · rw [if_pos h9, if_pos (by omega)]
              · rw [if_neg h9, if_neg (by omega)]
            · rw [if_neg (by omega), if_pos (by omega)]
              unfold wst
              rw [ht]
              simp
          · rw [i3_bit (by omega) (by omega)] at g
            have ht : (wn V o i).testBit o = true := by
              cases ht : (wn V o i).testBit o with
              | true => rfl
              | false => rw [ht] at g; exact absurd g (by decide)
            have eo := lkr_at c2 (j := 5) (i := o) (by omega) (by omega) rfl (show o < 12 by omega)
            have go : F2 5 o = i32 (wn V o o) := by
              rw [g2 o (by omega)]
              by_cases h9 : o < i
              · rw [if_pos h9]; unfold wst; split <;> simp
              · rw [if_neg h9]
            rw [go] at eo
            refine B196_56 (ae1 := l + 5) (ae5 := l + 5) ⟨_, c2.1, rfl⟩ e5 ⟨_, c2.1, rfl⟩ eo (c2.2 5 (by omega) (by omega)) rfl (by omega) (by rw [lst_len]; show i < 12; omega) (B196_71 ?_)
            rw [i3_add]
            obtain ⟨c3, m3⟩ := lkr_w c2 (j := 5) (by omega) (by omega) i (i32 (wn V o i) ||| i32 (wn V o o))
            refine ih2 (i + 1) (by omega) _ _ c3 (fun j i' hj => ?_) (fun c hc => ?_) (mo_tr m2 m3 (Nat.le_refl 0))
            · unfold fup; rw [if_neg (fun y => hj y.1)]; exact g1 j i' hj
            · unfold fup
              rcases Nat.decEq c i with hne | rfl
              · rw [if_neg (fun y => hne y.2), g2 c hc]
                by_cases h9 : c < i
                · rw [if_pos h9, if_pos (by omega)]
                · rw [if_neg h9, if_neg (by omega)]
              · rw [if_pos ⟨rfl, rfl⟩, if_pos (by omega), i3_or]
                unfold wst
                rw [ht]
                simp
      exact inner 12 0 rfl h1 F1 c1 f1 (fun c hc => by rw [if_neg (by omega)]; exact f2 c hc) m1
  have cpy : ∀ k i : Nat, i + k = 12 → ∀ h1 F1, lkr h1 l v F1 → (∀ j i, ¬ j = 5 → F1 j i = F j i) → (∀ c, c < i → F1 5 c = i32 (dim V c 16)) → mo (inL l) 0 h h1 → wp SC 196 d q 2 [(0, .ref l), (1, .int (i32 i))] [] h1 Q := by
    intro k
    induction k with
    | zero =>
      intro i hi h1 F1 c1 f1 f2 m1
      cases (show i = 12 by omega)
      exact B196_2 (fun _ => B196_26 (main 12 0 rfl h1 F1 c1 f1 f2 m1)) (fun g => absurd ((i3_lt (by omega) (by omega)).mp g) (by omega))
    | succ k ih =>
      intro i hi h1 F1 c1 f1 f2 m1
      refine B196_2 (fun g => absurd ((i3_lt (by omega) (by omega)).mpr (by omega)) g) (fun _ => ?_)
      have e4 := lkr_at c1 (j := 4) (i := i) (by omega) (by omega) rfl (show i < 12 by omega)
      rw [f1 4 i (by omega), hF i (by omega)] at e4
      refine B196_8 (ae1 := l + 5) (ae3 := l + 4) ⟨_, c1.1, rfl⟩ ⟨_, c1.1, rfl⟩ e4 (c1.2 5 (by omega) (by omega)) rfl (by omega) (by rw [lst_len]; show i < 12; omega) (B196_20 ?_)
      rw [i3_add]
      obtain ⟨c3, m3⟩ := lkr_w c1 (j := 5) (by omega) (by omega) i (i32 (dim V i 16))
      refine ih (i + 1) (by omega) _ _ c3 (fun j i' hj => ?_) (fun c hc => ?_) (mo_tr m1 m3 (Nat.le_refl 0))
      · unfold fup; rw [if_neg (fun y => hj y.1)]; exact f1 j i' hj
      · unfold fup
        rcases Nat.decEq c i with hne | rfl
        · rw [if_neg (fun y => hne y.2)]; exact f2 c (by omega)
        · rw [if_pos ⟨rfl, rfl⟩]
  exact B196_0 (cpy 12 0 rfl h F c (fun _ _ _ => rfl) (fun c hc => by omega) mo_rf)
theorem c197 {i : Nat} (hi : i < 12) (c : lkr h l v F) (vv : vr h v V) (f1 : ∀ n, n < 16 → F 1 n = i32 (dfm V n 12) ∧ F 2 n = oI (ow V n 12)) (f3 : F 3 i = i32 (rds (V i).2)) (f5 : F 5 i = i32 (wn V 12 i)) (K : Q 1 (.int (i32 (wr V i))) h) : wp SC 197 (d + 1) q 0 [(0, .ref l), (1, .int (i32 i))] [] h Q := by
  have ci := vv.2.2.2 i hi
  have hr := rds_lt ci
  have hd := (cd_lt ci).1
  obtain ⟨w, hw⟩ := cd_hg ci
  have hwn := wn_lt V 12 i
  have loop : ∀ k n : Nat, n + k = 16 → bex (wrA V i) n = false → wp SC 197 (d + 1) q 18 [(0, .ref l), (1, .int (i32 i)), (2, .int (i32 (dfd (V i).2))), (3, .int (ib (bex (wrB V i) n))), (4, .int (i32 n))] [] h Q := by
    intro k
    induction k with
    | zero =>
      intro n hn ha
      cases (show n = 16 by omega)
      refine B197_18 (fun _ => ?_) (fun g => absurd ((i3_lt (by omega) (by omega)).mp g) (by omega))
      have e5 := lkr_at c (j := 5) (i := i) (by omega) (by omega) rfl (show i < 12 by omega)
      rw [f5] at e5
      have hwr : wr V i = if (wn V 12 i).testBit i then 2 else if bex (wrB V i) 16 then 3 else 0 := by unfold wr; rw [ha]; rfl
      refine B197_87 (ae1 := l + 5) ⟨_, c.1, rfl⟩ e5 (fun g => ?_) (fun g => B197_101 ?_)
      · rw [i3_bit (by omega) (by omega)] at g
        have ht : (wn V 12 i).testBit i = false := by
          cases ht : (wn V 12 i).testBit i with
          | false => rfl
          | true => rw [ht] at g; exact absurd rfl g
        rw [ht] at hwr
        refine B197_103 (fun g => B197_111 (B197_112 ?_)) (fun g => B197_107 (B197_112 ?_))
        · rw [ib_0.mp g] at hwr; rw [hwr] at K; exact K
        · rw [show bex (wrB V i) 16 = true from by cases hb : bex (wrB V i) 16 with | true => rfl | false => exact absurd (ib_0.mpr hb) g] at hwr
          rw [hwr] at K; exact K
      · rw [i3_bit (by omega) (by omega)] at g
        have ht : (wn V 12 i).testBit i = true := by
          cases ht : (wn V 12 i).testBit i with
          | true => rfl
          | false => rw [ht] at g; exact absurd g (by decide)
        rw [ht] at hwr
        rw [hwr] at K; exact K
    | succ k ih =>
      intro n hn ha
      refine B197_18 (fun g => absurd ((i3_lt (by omega) (by omega)).mpr (by omega)) g) (fun _ => ?_)
      obtain ⟨g1, g2⟩ := f1 n (by omega)
      -- the second half: undefined
      have second : wrA V i n = false → wp SC 197 (d + 1) q 48 [(0, .ref l), (1, .int (i32 i)), (2, .int (i32 (dfd (V i).2))), (3, .int (ib (bex (wrB V i) n))), (4, .int (i32 n))] [] h Q := by
        intro hA
        have ha' : bex (wrA V i) (n + 1) = false := by show (bex (wrA V i) n || wrA V i n) = false; rw [ha, hA]; rfl
        have fin : ∀ b : Bool, b = wrB V i n → wp SC 197 (d + 1) q 79 [(0, .ref l), (1, .int (i32 i)), (2, .int (i32 (dfd (V i).2))), (4, .int (i32 n))] [.int (ib b), .int (ib (bex (wrB V i) n))] h Q := by
          intro b hb
          refine B197_79 ?_
          rw [i3_add, show ib (bex (wrB V i) n) ||| ib b = ib (bex (wrB V i) (n + 1)) from by show _ = ib (bex (wrB V i) n || wrB V i n); rw [← hb]; cases bex (wrB V i) n <;> cases b <;> decide]
          exact ih (n + 1) (by omega) ha'
        have e3 := lkr_at c (j := 3) (i := i) (by omega) (by omega) rfl (show i < 12 by omega)
        rw [f3] at e3
        have e1 := lkr_at c (j := 1) (i := n) (by omega) (by omega) rfl (show n < 16 by omega)
        rw [g1] at e1
        have hdm := dfm_lt V n 12
        refine B197_48 (ae1 := l + 3) ⟨_, c.1, rfl⟩ e3 (fun g => B197_78 (fin false ?_)) (fun g => B197_64 (ae1 := l + 1) ⟨_, c.1, rfl⟩ e1 (fun g' => B197_78 (fin false ?_)) (fun g' => B197_74 (fin true ?_)))
        · rw [i3_bit (by omega) (by omega)] at g
          unfold wrB
          cases ht : (rds (V i).2).testBit n with
          | false => rfl
          | true => rw [ht] at g; exact absurd rfl g
        · unfold wrB
          rw [decide_eq_false (fun y => g' (by rw [y]; rfl))]
          simp
        · rw [i3_bit (by omega) (by omega)] at g
          unfold wrB
          rw [decide_eq_true ((i3_zero (by omega)).mp g')]
          cases ht : (rds (V i).2).testBit n with
          | true => rfl
          | false => rw [ht] at g; exact absurd g (by decide)
      have e2 := lkr_at c (j := 2) (i := n) (by omega) (by omega) rfl (show n < 16 by omega)
      rw [g2] at e2
      have hol : ∀ c, ow V n 12 = some c → c < 2147483648 := fun c hc => by have := ow_lt hc; omega
      refine B197_25 (fun g => second ?_) (fun g => B197_35 (ae1 := l + 2) ⟨_, c.1, rfl⟩ e2 (fun g' => second ?_) (fun g' => B197_46 ?_))
      · rw [i3_bit (by omega) (by omega)] at g
        unfold wrA
        cases ht : (dfd (V i).2).testBit n with
        | false => rfl
        | true => rw [ht] at g; exact absurd rfl g
      · unfold wrA
        rw [decide_eq_true ((oI_eq hol (by omega)).mp g')]
        simp
      · rw [i3_bit (by omega) (by omega)] at g
        have hA : wrA V i n = true := by
          unfold wrA
          rw [decide_eq_false (fun y => g' ((oI_eq hol (by omega)).mpr y))]
          cases ht : (dfd (V i).2).testBit n with
          | true => rfl
          | false => rw [ht] at g; exact absurd g (by decide)
        have hb : bex (wrA V i) 16 = true := bex_iff.mpr ⟨n, by omega, hA⟩
        unfold wr at K
        rw [hb] at K
        exact K
  exact B197_0 ⟨_, c.1, rfl⟩ ⟨_, vv.1, rfl⟩ ⟨_, i, vv.2.2.1, rfl, by omega, lst_get _ hi⟩ hw rfl (c130 ci (ret1 (B197_12 (loop 16 0 rfl rfl))))
theorem c193 (hv : v + 39 ≤ l ∨ l + 7 ≤ v) (c : lkr h l v F) (vv : vr h v V) (K : ∀ h', lk h' l v V → mo (inL l) 0 h h' → Q 0 .null h') : wp SC 193 (d + 2) q 0 [(0, .ref l)] [] h Q := by
  refine B193_0 c.1 rfl (c194 hv c vv (fun h1 F1 c1 f1 f1' m1 => ret0 ?_))
  have v1 := vr_mo m1 (fun a z => inVL hv z) (vr_top vv) vv
  refine B193_4 c1.1 rfl (c195 hv c1 v1 (fun n hn => (f1 n hn).1) (fun h2 F2 c2 f2 f2' m2 => ret0 ?_))
  refine B193_8 c2.1 rfl (c196 (V := V) c2 (fun c hc => (f2' c hc).2) (fun h3 F3 c3 f3 f3' m3 => ret0 (B193_12 ?_)))
  have m13 := mo_tr m1 (mo_tr m2 m3 (Nat.le_refl 0)) (Nat.le_refl 0)
  have loop : ∀ k i : Nat, i + k = 12 → ∀ h4 F4, lkr h4 l v F4 → (∀ j i, ¬ j = 6 → F4 j i = F3 j i) → (∀ c, c < i → F4 6 c = i32 (wr V c)) → mo (inL l) 0 h h4 → wp SC 193 (d + 2) q 14 [(0, .ref l), (1, .int (i32 i))] [] h4 Q := by
    intro k
    induction k with
    | zero =>
      intro i hi h4 F4 c4 g1 g2 m4
      cases (show i = 12 by omega)
      refine B193_14 (fun _ => B193_37 (K h4 ⟨F4, c4, fun j i h1 h6 hi _ => ?_⟩ m4)) (fun g => absurd ((i3_lt (by omega) (by omega)).mp g) (by omega))
      have hj : j = 1 ∨ j = 2 ∨ j = 3 ∨ j = 4 ∨ j = 5 ∨ j = 6 := by omega
      rcases hj with rfl | rfl | rfl | rfl | rfl | rfl
      · rw [g1 1 i (by omega), f3 1 i (by omega), f2 1 i (by omega), (f1 i hi).1]; rfl
      · rw [g1 2 i (by omega), f3 2 i (by omega), f2 2 i (by omega), (f1 i hi).2]; rfl
      · rw [g1 3 i (by omega), f3 3 i (by omega), (f2' i hi).1]; rfl
      · rw [g1 4 i (by omega), f3 4 i (by omega), (f2' i hi).2]; rfl
      · rw [g1 5 i (by omega), f3' i hi]; rfl
      · rw [g2 i hi]; rfl
    | succ k ih =>
      intro i hi h4 F4 c4 g1 g2 m4
      refine B193_14 (fun g => absurd ((i3_lt (by omega) (by omega)).mpr (by omega)) g) (fun _ => ?_)
      have v4 := vr_mo m4 (fun a z => inVL hv z) (vr_top vv) vv
      refine B193_20 (ae1 := l + 6) ⟨_, c4.1, rfl⟩ c4.1 rfl (c197 (V := V) (by omega) c4 v4 (fun n hn => by rw [g1 1 n (by omega), f3 1 n (by omega), f2 1 n (by omega), g1 2 n (by omega), f3 2 n (by omega), f2 2 n (by omega)]; exact f1 n hn) (by rw [g1 3 i (by omega), f3 3 i (by omega)]; exact (f2' i (by omega)).1) (by rw [g1 5 i (by omega)]; exact f3' i (by omega)) (ret1 ?_))
      refine B193_30 (c4.2 6 (by omega) (by omega)) rfl (by omega) (by rw [lst_len]; show i < 12; omega) (B193_31 ?_)
      rw [i3_add]
      obtain ⟨c5, m5⟩ := lkr_w c4 (j := 6) (by omega) (by omega) i (i32 (wr V i))
      refine ih (i + 1) (by omega) _ _ c5 (fun j i' hj => ?_) (fun c hc => ?_) (mo_tr m4 m5 (Nat.le_refl 0))
      · unfold fup; rw [if_neg (fun y => hj y.1)]; exact g1 j i' hj
      · unfold fup
        rcases Nat.decEq c i with hne | rfl
        · rw [if_neg (fun y => hne y.2)]; exact g2 c (by omega)
        · rw [if_pos ⟨rfl, rfl⟩]
  exact loop 12 0 rfl h3 F3 c3 (fun _ _ _ => rfl) (fun c hc => by omega) m13
end LW
