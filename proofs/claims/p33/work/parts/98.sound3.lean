/-! The law's sound. -/
section SN
variable {SC : List Value} {s : Nat} {Q : Nat → Value → re_H → Prop} {b W : Nat} {bh c : Nat}
theorem c582n {e x1 x2 x3 x10 : Int32} (hc : c < 12) (hW : W ≤ 400000) : ∀ (j n : Nat) (A : Nb) (h : re_H) (N : List Nat) (ff : Nat), n + j = 6 → inv A bh → rmA A W → fre9 A bh c x10 → ((nY A).1 c).1 = e → ((nV A) c).1 = true → NB h b A N ff W → ff + 36000 * (2 * j) + 80000 < 2 ^ 62 → (∀ h' N' A' ff', GO b bh W (2 * j) j h N A ff h' N' A' ff' → wp SC 582 39 s 328 [(0, .ref b), (1, .int x1), (2, .int x2), (3, .int x3), (4, .int (i32 1)), (5, .int (i32 c))] [] h' Q) → wp SC 582 39 (s + j) 173 [(0, .ref b), (1, .int x1), (2, .int x2), (3, .int x3), (4, .int (i32 1)), (5, .int (i32 c)), (6, .int e), (10, .int x10), (11, .int (i32 n))] [] h Q := by
  intro j
  induction j with
  | zero =>
    intro n A h N ff hn hi hr hfr he ht z hff K
    cases (show n = 6 by omega)
    exact B582_173 (fun _ => K h N A ff (GO_rf z hi)) (fun g => absurd ((i3_lt (by omega) (by omega)).mp g) (by omega))
  | succ j ih =>
    intro n A h N ff hn hi hr hfr he ht z hff K
    refine B582_173 (fun g => absurd ((i3_lt (by omega) (by omega)).mpr (by omega)) g) (fun _ => B582_180 (fun g => absurd g (by decide)) (fun _ => ?_))
    have fin : ∀ h2 N2 A2 ff2, GO b bh W 2 1 h N A ff h2 N2 A2 ff2 → ∀ s2, s + j ≤ s2 → wp SC 582 39 s2 315 [(0, .ref b), (1, .int x1), (2, .int x2), (3, .int x3), (5, .int (i32 c)), (6, .int e), (10, .int x10), (11, .int (i32 n))] [] h2 Q := fun h2 N2 A2 ff2 g s2 hs2 => B582_315 (B582_320 (by
      rw [i3_add]
      obtain ⟨g1, g2, g3, g4, g5, g6, g7⟩ := id g
      refine wp_up (Nat.le_refl _) hs2 (ih (n + 1) A2 h2 N2 ff2 (by omega) g5 (rmA_s hr g4) (fre9_s hfr g4) ((congrArg (fun R : Rs => R.1) (g4.2.2.2.2.2.2.2.1 c hc)).trans he) (by rw [g4.2.1]; exact ht) g2 (by omega) (fun h' N' A' ff' y => K h' N' A' ff' (GO_up (GO_tr g y) (by omega) (by omega))))))
    refine L582_185 z.1 rfl (s1 := 0) (s2 := s + (j + 1)) (by omega) (wp_up (d := 2) (by omega) (Nat.le_refl _) (c33 (d := 0) hc (by omega) ht z (ret1 ?_)))
    have main : wp SC 582 39 (s + (j + 1)) 205 [(0, .ref b), (1, .int x1), (2, .int x2), (3, .int x3), (5, .int (i32 c)), (6, .int e), (10, .int x10), (11, .int (i32 n)), (12, .int (i32 (knd (lkp n (rK ((nY A).1 c))))))] [] h Q := by
      obtain ⟨k1, k2⟩ := knd_e (lkp n (rK ((nY A).1 c)))
      refine B582_205 (fun g => ?_) (fun g => ?_)
      · have hk : ¬ knd (lkp n (rK ((nY A).1 c))) = 1 := fun y => g (k1.mpr y)
        refine B582_233 (fun g2 => absurd g2 g) (fun _ => ?_)
        refine L582_239 (s1 := 0 + 1) (s2 := s + j) (by omega) (wp_up (d := 37) (by omega) (Nat.le_refl _) (cs24n hc (by omega) ht hk h b N ff 0 _ z (by omega) (fun h2 N2 z2 o2 => ret2 (B582_249 (fun g => absurd rfl g) (fun _ => ?_)))))
        have G1 : GO b bh W 1 0 h N A ff h2 N2 A (ff + 36000) := GO_c z2 o2 hi
        refine B582_256 (fun _ => fin h2 N2 A _ (GO_up G1 (by omega) (by omega)) _ (Nat.le_refl _)) (fun gx => ?_)
        refine B582_261 (fun _ => ?_) (fun g2 => absurd g2 g)
        refine B582_290 (fun _ => fin h2 N2 A _ (GO_up G1 (by omega) (by omega)) _ (Nat.le_refl _)) (fun _ => ?_)
        refine L582_300 z2.1 rfl (s1 := 0) (s2 := s + j) (by omega) (wp_up (d := 35) (by omega) (Nat.le_refl _) (c35 (d := 0) hc (by omega) ht z2 (hr A (fun _ _ => rfl)) (by omega) hW (fun h3 N3 z3 o3 => ret2 (B582_308 (fun g => absurd ?_ g) (fun _ => fin h3 N3 (aA A) _ (GO_tr G1 (GO_A z3 o3 hi)) _ (Nat.le_refl _))))))
        obtain ⟨f1, f2⟩ := hfr gx
        exact va_2 ((snd_nm (snd_ok hi hc ht f1 f2).2 n).2 hk)
      · have hk := k1.mp g
        obtain ⟨v, hv, hC⟩ := knd_1 hk
        refine L582_211 (s1 := 0 + 1) (s2 := s + j) (by omega) (wp_up (d := 37) (by omega) (Nat.le_refl _) (cs24 hc (by omega) ht hv hC h b N ff 0 _ z (by omega) (fun h2 N2 z2 o2 => ret2 ?_)))
        have G1 : GO b bh W 1 0 h N A ff h2 N2 A (ff + 36000) := GO_c z2 o2 hi
        refine L582_221 z2.1 rfl (s1 := 0) (s2 := s + j) (by omega) (wp_up (d := 2) (by omega) (Nat.le_refl _) (c34 (d := 0) hc (by omega) ht z2 (fun y => absurd hk y) (fun v2 hv2 _ => ret2 ?_)))
        have e2 : v2 = v := by rw [hv] at hv2; cases hv2; rfl
        subst e2
        refine B582_229 (fun y => absurd rfl y) (fun _ => B582_233 (fun _ => ?_) (fun y => absurd g y))
        refine B582_256 (fun _ => fin h2 N2 A _ (GO_up G1 (by omega) (by omega)) _ (Nat.le_refl _)) (fun gx => B582_261 (fun y => absurd g y) (fun _ => ?_))
        refine L582_267 z2.1 rfl (s1 := 0) (s2 := s + j) (by omega) (wp_up (d := 35) (by omega) (Nat.le_refl _) (c35 (d := 0) hc (by omega) ht z2 (hr A (fun _ _ => rfl)) (by omega) hW (fun h3 N3 z3 o3 => ret2 ?_)))
        obtain ⟨f1, f2⟩ := hfr gx
        obtain ⟨v', y1, y2, y3⟩ := (snd_nm (snd_ok hi hc ht f1 f2).2 n).1 v2 hv hC
        have hK : rK ((nY (aA A)).1 c) = rK ((nY A).1 c) := by rw [(sA_A A).2.2.2.2.2.2.2.1 c hc]
        refine L582_275 z3.1 rfl (s1 := 0) (s2 := s + j) (by omega) (wp_up (d := 2) (by omega) (Nat.le_refl _) (c34 (d := 0) (A := aA A) hc (by omega) ht z3 (fun y => absurd (by rw [hK]; exact hk) y) (fun v3 hv3 _ => ret2 (B582_283 (fun y => absurd ?_ y) (fun _ => B582_287 (fin h3 N3 (aA A) _ (GO_tr G1 (GO_A z3 o3 hi)) _ (Nat.le_refl _)))))))
        rw [hK, hv] at hv3
        cases hv3
        rw [va_1 y1 y2, y3]
    refine B582_193 (fun _ => main) (fun g => B582_200 (fun g2 => absurd ?_ g2) (fun _ => main))
    rw [er_K hi.1 hc (by rw [he]; exact g)]
    rfl
end SN
