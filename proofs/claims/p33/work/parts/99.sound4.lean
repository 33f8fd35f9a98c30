section SC9
variable {SC : List Value} {s : Nat} {Q : Nat → Value → re_H → Prop} {b W ff : Nat} {bh c : Nat} {A : Nb} {h : re_H} {N : List Nat}
theorem c582c (hi : inv A bh) (hb2 : bh ≤ 1) (hr : rmA A W) (hW : W ≤ 400000) (hc : c < 12) (z : NB h b A N ff W) (hff : ff + 700000 < 2 ^ 62) (K : ∀ h' N' A' ff', GO b bh W 14 7 h N A ff h' N' A' ff' → wp SC 582 39 s 328 [(0, .ref b), (1, .int (i32 (nM A))), (2, .int (i32 (nO A))), (3, .int (i32 bh)), (4, .int (i32 1)), (5, .int (i32 c))] [] h' Q) : wp SC 582 39 (s + 7) 17 [(0, .ref b), (1, .int (i32 (nM A))), (2, .int (i32 (nO A))), (3, .int (i32 bh)), (4, .int (i32 1)), (5, .int (i32 c))] [] h Q := by
  cases ht : ((nV A) c).1 with
  | false =>
    refine L582_17 (s1 := 0 + 1) (s2 := s + 6) (by omega) (wp_up (d := 37) (by omega) (Nat.le_refl _) (cs21x (Or.inr (Or.inr ⟨c, hc, rfl, ht⟩)) h b N ff 0 _ z (by omega) (fun h2 N2 z2 o2 => ret2 (B582_26 (fun _ => ?_) (fun g => absurd rfl g)))))
    exact wp_up (Nat.le_refl _) (by omega) (K h2 N2 A _ (GO_up (GO_c z2 o2 hi) (by omega) (by omega)))
  | true =>
    refine L582_17 (s1 := 0 + 1) (s2 := s + 6) (by omega) (wp_up (d := 37) (by omega) (Nat.le_refl _) (cs21 hc ht h b N ff 0 _ z (by omega) (fun h2 N2 z2 o2 => ret2 (B582_26 (fun g => absurd g (er_OUT hi.1 hc)) (fun _ => ?_)))))
    have G1 : GO b bh W 1 0 h N A ff h2 N2 A (ff + 36000) := GO_c z2 o2 hi
    refine L582_33 z2.1 rfl (s1 := 0) (s2 := s + 6) (by omega) (wp_up (d := 1) (by omega) (Nat.le_refl _) (c31 (d := 0) hc ht z2 (ret1 ?_)))
    refine L582_39 z2.1 rfl (s1 := 0) (s2 := s + 6) (by omega) (wp_up (d := 35) (by omega) (Nat.le_refl _) (c32 (d := 0) hc ht z2 (ret1 ?_)))
    refine L582_47 z2.1 rfl (s1 := 0) (s2 := s + 6) (by omega) (wp_up (d := 35) (by omega) (Nat.le_refl _) (c36 (d := 0) hc ht z2 (hr A (fun _ _ => rfl)) (by omega) hW (fun h3 N3 z3 o3 => ret1 ?_)))
    have G2 : GO b bh W 2 1 h N A ff h3 N3 (aA A) (ff + 36000 + 36000) := GO_up (GO_tr G1 (GO_A z3 o3 hi)) (by omega) (by omega)
    have iA := G2.2.2.2.2.1
    have sa := sA_A A
    have he := er_ok hi.1 hc
    have hne := er_0 hi hc ht
    have hok := snd_ok (bh := bh) hi hc ht
    have has := an_s hi hc ht
    have haw := an_w hi hc ht
    have hm0 := fun (y : nO A = 0) => hi.2 y c hc
    obtain ⟨e, ee⟩ : ∃ e, e = ((nY A).1 c).1 := ⟨_, rfl⟩
    obtain ⟨a, ea⟩ : ∃ a, a = ((nY (aA A)).1 (12 + c)).1 := ⟨_, rfl⟩
    obtain ⟨x7, h7⟩ : ∃ x, x = ib ((stl8 A).testBit c) := ⟨_, rfl⟩
    have t7 : x7 = 0 ↔ (stl8 A).testBit c = false := by
      rw [h7]
      cases (stl8 A).testBit c
      · exact ⟨fun _ => rfl, fun _ => rfl⟩
      · exact ⟨fun y => absurd y (by decide), fun y => (by cases y)⟩
    rw [← ee] at he hne hok has
    rw [← ea] at hok has haw
    rw [← ee, ← ea, ← h7]
    -- behind what is told of the error
    have at163 : ∀ x10 : Int32, fre9 A bh c x10 → wp SC 582 39 (s + 6) 163 [(0, .ref b), (1, .int (i32 (nM A))), (2, .int (i32 (nO A))), (3, .int (i32 bh)), (5, .int (i32 c)), (6, .int e), (10, .int x10)] [] h3 Q := fun x10 hf10 =>
      B582_163 (B582_168 (c582n hc hW 6 0 (aA A) h3 N3 _ (by omega) iA (rmA_s hr sa) (fre9_s hf10 sa) (((congrArg (fun R : Rs => R.1) (sa.2.2.2.2.2.2.2.1 c hc))).trans ee.symm) (show ((nV (aA A)) c).1 = true from ht) z3 (by omega) (fun h' N' A' ff' y => K h' N' A' ff' (GO_up (GO_tr G2 y) (by omega) (by omega)))))
    have at133 : ∀ x9 x10 : Int32, (¬ x9 = 0 → ¬ wr (nV A) c = 0) → fre9 A bh c x10 → wp SC 582 39 (s + 6) 133 [(0, .ref b), (1, .int (i32 (nM A))), (2, .int (i32 (nO A))), (3, .int (i32 bh)), (5, .int (i32 c)), (6, .int e), (7, .int x7), (8, .int a), (9, .int x9), (10, .int x10)] [] h3 Q := fun x9 x10 h9 hf10 => by
      refine B582_133 (fun _ => at163 x10 hf10) (fun g => ?_)
      have hea := has (h9 g)
      refine B582_138 (fun g7 => B582_147 (B582_148 (fun _ => B582_159 (B582_160 (fun y => absurd rfl y) (fun _ => at163 x10 hf10))) (fun y => absurd (t7.mpr (hea.mpr y)) g7))) (fun g7 => B582_143 (B582_148 (fun y => absurd (hea.mp (t7.mp g7)) y) (fun _ => B582_155 (B582_160 (fun y => absurd rfl y) (fun _ => at163 x10 hf10)))))
    have at121 : ∀ x9 x10 : Int32, (¬ x9 = 0 → ¬ wr (nV A) c = 0) → fre9 A bh c x10 → wp SC 582 39 (s + 6) 121 [(0, .ref b), (1, .int (i32 (nM A))), (2, .int (i32 (nO A))), (3, .int (i32 bh)), (5, .int (i32 c)), (6, .int e), (7, .int x7), (8, .int a), (9, .int x9), (10, .int x10)] [] h3 Q := fun x9 x10 h9 hf10 =>
      B582_121 (fun _ => at133 x9 x10 h9 hf10) (fun g => B582_126 (fun y => absurd (hok (hf10 g).1 (hf10 g).2).1 y) (fun _ => at133 x9 x10 h9 hf10))
    have at111 : ∀ x9 x10 : Int32, (¬ x9 = 0 → ¬ wr (nV A) c = 0) → fre9 A bh c x10 → wp SC 582 39 (s + 6) 111 [(0, .ref b), (1, .int (i32 (nM A))), (2, .int (i32 (nO A))), (3, .int (i32 bh)), (5, .int (i32 c)), (6, .int e), (7, .int x7), (8, .int a), (9, .int x9), (10, .int x10)] [] h3 Q := fun x9 x10 h9 hf10 =>
      B582_111 (fun _ => at121 x9 x10 h9 hf10) (fun g => B582_116 (fun y => absurd (show e = -1 by
        rcases he with w | w | w | w | w | w | w
        · exact w
        all_goals (rw [w] at g; exact absurd g (by decide))) (hne (t7.mp y))) (fun _ => at121 x9 x10 h9 hf10))
    have at100 : ∀ x9 x10 : Int32, (¬ x9 = 0 → ¬ wr (nV A) c = 0) → fre9 A bh c x10 → wp SC 582 39 (s + 6) 100 [(0, .ref b), (1, .int (i32 (nM A))), (2, .int (i32 (nO A))), (3, .int (i32 bh)), (5, .int (i32 c)), (6, .int e), (7, .int x7), (8, .int a), (9, .int x9)] [.int x10] h3 Q := fun x9 x10 h9 hf10 => by
      refine B582_100 (fun _ => at111 x9 x10 h9 hf10) (fun g => B582_106 (fun g7 => ?_) (fun _ => at111 x9 x10 h9 hf10))
      have ho2 := (NB_md z).2
      have : nO A = 0 := by
        rcases Nat.eq_zero_or_pos (nO A) with y | y
        · exact y
        · exact absurd ((i3_pos (by omega)).mpr y) g
      exact absurd (t7.mpr (Bool.eq_false_iff.mpr (hm0 this))) g7
    have at73 : ∀ x9 : Int32, (¬ x9 = 0 → ¬ wr (nV A) c = 0) → wp SC 582 39 (s + 6) 73 [(0, .ref b), (1, .int (i32 (nM A))), (2, .int (i32 (nO A))), (3, .int (i32 bh)), (5, .int (i32 c)), (6, .int e), (7, .int x7), (8, .int a)] [.int x9] h3 Q := fun x9 h9 => by
      have f1 : fre9 A bh c (i32 1) := fun y => absurd y (by decide)
      refine B582_73 (fun _ => B582_95 (at100 x9 _ h9 f1)) (fun g7 => B582_80 (fun g3 => B582_99 (at100 x9 _ h9 (fun _ => ⟨t7.mp g7, Or.inl ?_⟩))) (fun _ => ?_))
      · rcases (show bh = 0 ∨ bh = 1 by omega) with y | y
        · exact y
        · exact absurd (by rw [y]) g3
      · refine L582_85 (s1 := 0) (s2 := s + 6) (by omega) (c583 (A := aA A) iA.1 hc ht z3 (fun x hx hp => ret1 (B582_92 (fun gx => B582_99 (at100 x9 _ h9 (fun _ => ⟨t7.mp g7, Or.inr (fun c' hc' hb hs => ?_)⟩))) (fun _ => B582_95 (at100 x9 _ h9 f1)))))
        have hp2 := hp (hx.resolve_left gx) c' hc' hb
        rw [sa.2.2.2.2.2.2.2.1 c' hc'] at hp2
        exact kd_N hi.1 hc' hp2 hs (sl_th hi.1.1.1 hc ht hb).2
    refine B582_55 (fun _ => B582_72 (at73 _ (fun y => absurd rfl y))) (fun g1 => B582_62 (fun _ => B582_72 (at73 _ (fun y => absurd rfl y))) (fun g2 => B582_68 (at73 _ (fun _ => haw g1 g2))))
theorem c582 (hi : inv A bh) (hb2 : bh ≤ 1) (hr : rmA A W) (hW : W ≤ 400000) (z : NB h b A N ff W) (hff : ff + 9000000 < 2 ^ 62) (K : ∀ h' N' A' ff', GO b bh W 168 84 h N A ff h' N' A' ff' → Q 1 (.int 1) h') : wp SC 582 39 (s + 7 * nM A) 0 [(0, .ref b), (1, .int (i32 (nM A))), (2, .int (i32 (nO A))), (3, .int (i32 bh))] [] h Q := by
  have hm := (NB_md z).1
  have loop : ∀ (j c1 : Nat) (h1 : re_H) (N1 : List Nat) (A1 : Nb) (f1 : Nat), c1 + j = nM A → GO b bh W (14 * c1) (7 * c1) h N A ff h1 N1 A1 f1 → wp SC 582 39 (s + 7 * j) 6 [(0, .ref b), (1, .int (i32 (nM A))), (2, .int (i32 (nO A))), (3, .int (i32 bh)), (4, .int (i32 1)), (5, .int (i32 c1))] [] h1 Q := by
    intro j
    induction j with
    | zero =>
      intro c1 h1 N1 A1 f1 hc g
      exact B582_6 (fun _ => B582_334 (Or.inr rfl) (K h1 N1 A1 f1 (GO_up g (by omega) (by omega)))) (fun y => absurd ((i3_lt (by omega) (by omega)).mp y) (by omega))
    | succ j ih =>
      intro c1 h1 N1 A1 f1 hc g
      obtain ⟨g1, g2, g3, g4, g5, g6, g7⟩ := id g
      refine B582_6 (fun y => absurd ((i3_lt (by omega) (by omega)).mpr (by omega)) y) (fun _ => B582_12 (fun y => absurd y (by decide)) (fun _ => ?_))
      rw [← g4.2.2.1, ← g4.2.2.2.2.2.1]
      refine wp_up (d := 39) (Nat.le_refl _) (show s + 7 * j + 7 ≤ s + 7 * (j + 1) by omega) (c582c g5 hb2 (rmA_s hr g4) hW (show c1 < 12 by omega) g2 (by omega) (fun h' N' A' ff' y => B582_328 ?_))
      rw [i3_add, g4.2.2.1, g4.2.2.2.2.2.1]
      exact ih (c1 + 1) h' N' A' ff' (by omega) (GO_up (GO_tr g y) (by omega) (by omega))
  exact B582_0 (loop (nM A) 0 h N A ff (by omega) (GO_rf z hi))
end SC9
