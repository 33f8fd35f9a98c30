section O4
variable {SC : List Value} {q : Nat} {h : re_H} {Q : Nat → Value → re_H → Prop} {A A' A1 A1' : Nb} {bh n t ff zz c nm : Nat} {N N' : List Nat}
theorem dff_kp (V : Vr) : dff V (kpV V) 12 = 0 := by
  refine Nat.eq_of_testBit_eq (fun i => ?_)
  rw [dff_bit, Nat.zero_testBit]
  by_cases hi : i < 12
  · have : smC V (kpV V) i = true := by
      have e : kpV V i = V i := if_pos hi
      unfold smC
      rw [e, ceq_rf]
      simp
    rw [this]; simp
  · rw [decide_eq_false hi]; rfl
theorem x586k (j : LJ A A' bh n t) (hn : n ≤ 79) (z : JH h A A' N N' ff zz (ds9 A bh)) (hf : ff + 10000000 < 2 ^ 62) (K : ∀ h' A1 A1' N1 N1' ff1 zz1 bh1, EN n t ff zz (nB A).length h' A1 A1' N1 N1' ff1 zz1 bh1 → Q 1 (.int 1) h') : wp SC 586 39 (q + 8) 375 [(0, .ref 0), (1, .ref 301), (2, .ref 602)] [] h Q := by
  have hbl := NB_bl z.1
  obtain ⟨Y', rfl, sy⟩ := sim_tu j.1
  refine L586_375 (s1 := 0 + 2 * 2) (s2 := q + 4) (by omega) ?_
  rcases Nat.lt_or_ge (nB A).length 4 with g | g
  · have jj : LJ (aKp A) (aKp (wY A Y')) bh (n + 1) (t + 50) := by
      obtain ⟨j1, ⟨a1, a2, a3, a4, a5⟩, ⟨b1, b2, b3, b4, b5⟩, j4, j5⟩ := j
      refine ⟨⟨rfl, rfl, rfl, rfl, rfl, rfl, rfl, sy⟩, ⟨inv_kp a1 g, pot_up (A := A) a2 (by omega), a3, by show (nY A).2.2 ≤ t + 50; omega, a5⟩, ⟨inv_kp (A := wY A Y') b1 g, pot_up (A := wY A Y') b2 (by omega), b3, Nat.le_trans b4 (by omega), b5⟩, j4, ?_⟩
      refine WT_up (WT_V (A1 := aKp A) j5 rfl (fun x hx => Or.inl (Nat.le_refl _)) (fun U hU => ?_)) (by omega)
      rcases List.mem_append.mp (show U ∈ nB A ++ [kpV (nV A)] from hU) with y | y
      · exact Or.inl y
      · refine Or.inr (fun x hx => ?_)
        rw [List.mem_singleton.mp y]
        unfold kpV
        rw [if_pos hx]
    refine both9 z (by omega) (cs18 g) (cs18 (A := wY A Y') g) (fun h1 N1 N1' z1 => ret2 ?_)
    refine B586_384 (xe1 := i32 (nB A).length) (row_ar (i := 3) z1.2.2.2.1 (by omega) rfl) (fun g => absurd g (lj_neg (by omega))) (fun _ => B586_397 (B586_402 (i := 3) z1.2.2.2.1 rfl (by omega) (by show 3 < 5; omega) (B586_404 (fun _ => ?_) (fun g => absurd g (lj_NOT (by omega))))))
    have z2 := JH_w (ds1 := (ds9 A bh).set 3 (.int (i32 (nB A).length + i32 1))) z1
    have e : (ds9 A bh).set 3 (.int (i32 (nB A).length + i32 1)) = ds9 (aKp A) bh := by
      rw [i3_add]
      show [_, _, _, _, _] = [_, _, _, Value.int (i32 (nB A ++ [kpV (nV A)]).length), _]
      rw [List.length_append]
      rfl
    rw [e] at z2 ⊢
    have hlen : (nB (aKp A)).length = (nB A).length + 1 := by
      show (nB A ++ [kpV (nV A)]).length = _
      rw [List.length_append]
      rfl
    have hU : (nB (aKp A))[(nB A).length]? = some (kpV (nV A)) := by
      show (nB A ++ [kpV (nV A)])[(nB A).length]? = _
      rw [List.getElem?_append_right (Nat.le_refl _)]
      simp
    refine B586_428 (xe1 := i32 (nB (aKp A)).length) (row_ar (i := 3) z2.2.2.2.1 (by omega) rfl) (fun g => absurd ?_ g) (fun _ => ?_)
    · rw [hlen, i3_sub (by omega), show (nB A).length + 1 - 1 = (nB A).length by omega]
      exact lc_rf _
    · refine L586_440 z2.1.1 rfl (s1 := 0) (s2 := q + 4) (by omega) ?_
      rw [Int32.toInt32_toInt64]
      refine wp_up (d := 33) (by omega) (Nat.le_refl _) (c30 (d := 0) hU z2.1 (ret1 (B586_447 (fun y => absurd ?_ y) (fun _ => B586_450 (B586_455 (Or.inr rfl) (K _ _ _ _ _ _ _ bh ⟨jj, z2, by omega, ?_⟩))))))
      · have : dff (nV (aKp A)) (kpV (nV A)) 12 = 0 := dff_kp (nV A)
        rw [this]
        rfl
      · rw [hlen]
        omega
  · have g4 : (nB A).length = 4 := by omega
    refine both9 z (by omega) (cs18n g4) (cs18n (A := wY A Y') g4) (fun h1 N1 N1' z1 => ret2 ?_)
    refine B586_384 (xe1 := i32 (nB A).length) (row_ar (i := 3) z1.2.2.2.1 (by omega) rfl) (fun _ => B586_401 (B586_402 (i := 3) z1.2.2.2.1 rfl (by omega) (by show 3 < 5; omega) (B586_404 (fun g => absurd rfl g) (fun _ => ?_)))) (fun g => absurd (by decide) g)
    have z2 := JH_w (ds1 := (ds9 A bh).set 3 (.int (i32 (nB A).length + i32 0))) z1
    have e : (ds9 A bh).set 3 (.int (i32 (nB A).length + i32 0)) = ds9 A bh := by
      rw [i3_add, Nat.add_zero]
      rfl
    refine B586_413 (xe1 := i32 (nB A).length + i32 0) (row_ar (i := 3) z2.2.2.2.1 (by omega) rfl) (fun y => absurd (by rw [i3_add, Nat.add_zero, g4]) y) (fun _ => B586_420 (B586_455 (Or.inr rfl) (K _ _ _ _ _ _ _ bh ⟨LJ_up j, by rw [e] at z2 ⊢; exact z2, by omega, ?_⟩)))
    show zz + 2 * 0 + 78 * (nB A).length ≤ zz + 2 * (n + 1) + 78 * (nB A).length
    omega
/-- behind a take that took, or had nothing to take -/
theorem x586u {s k : Nat} {U : Vr} {A1 A1' : Nb} {N1 N1' : List Nat} {ff1 zz1 : Nat} (z1 : JH h A1 A1' N1 N1' ff1 zz1 (ds9 A1 bh)) (hf : ff1 + 1000000 < 2 ^ 62) (hU : (nB A1)[k]? = some U) (hU' : (nB A1')[k]? = some U) (hc : c < nM A1) (hc' : c < nM A1') (hs : smC (nV A1) U c = true) (hs' : smC (nV A1') U c = true) (r1 : rmL (nY A1).1 Wo) (r2 : rmL (nY A1').1 Wt) (K : ∀ h' N2 N2', JH h' A1 A1' N2 N2' (ff1 + 72000) (zz1 + 2 * 0) (ds9 A1 bh) → Q 1 (.int 1) h') : wp SC 586 39 (s + 2) 538 [(0, .ref 0), (1, .ref 301), (6, .int (i32 c)), (7, .int (i32 k))] [] h Q := by
  have h12 := (NB_md z1.1).1
  refine L586_538 z1.1.1 rfl (s1 := 0) (s2 := s + 2) (by omega) (wp_up (d := 33) (by omega) (Nat.le_refl _) (c30 (d := 0) hU z1.1 (ret1 (B586_544 (fun y => absurd ?_ y) (fun _ => ?_)))))
  · have hl := dff_lt (nV A1) U 12
    rw [i3_bit (by omega) (by omega), if_neg (by rw [dff_bit, hs]; simp)]
    rfl
  · exact L586_552 (s1 := 0 + 2 * 1) (s2 := s) (by omega) (both9 z1 (by omega) (cs19z r1 (by decide) hU hc hs) (cs19z r2 (by decide) hU' hc' hs') (fun h3 N3 N3' z3 => ret2 (B586_563 (fun y => absurd rfl y) (fun _ => B586_568 (B586_573 (Or.inr rfl) (K _ _ _ z3))))))
theorem x586t {x4 : Int32} (j : LJ A A' bh n t) (hn : n ≤ 79) (z : JH h A A' N N' ff zz (ds9 A bh)) (hf : ff + 10000000 < 2 ^ 62) (hc : c ≤ nM A) (K : ∀ h' A1 A1' N1 N1' ff1 zz1 bh1, EN n t ff zz (nB A).length h' A1 A1' N1 N1' ff1 zz1 bh1 → Q 1 (.int 1) h') : wp SC 586 39 (q + 8) 456 [(0, .ref 0), (1, .ref 301), (2, .ref 602), (4, .int x4), (6, .int (i32 c))] [] h Q := by
  obtain ⟨r1, r2⟩ := LJ_rm j hn
  obtain ⟨hm12, ho2⟩ := NB_md z.1
  have hbl := NB_bl z.1
  obtain ⟨Y', rfl, sy⟩ := sim_tu j.1
  refine B586_456 (xe1 := i32 (nB A).length) (row_ar (i := 3) z.2.2.2.1 (by omega) rfl) ?_
  rw [i3_add]
  refine c577 (by omega) (by omega) (fun k hk => ret1 ?_)
  rcases Nat.lt_or_ge k (nB A).length with hkl | hkl
  · obtain ⟨U, hU⟩ : ∃ U, (nB A)[k]? = some U := ⟨_, List.getElem?_eq_getElem hkl⟩
    have hUm : U ∈ nB A := List.mem_of_getElem? hU
    refine L586_468 (s1 := 0 + 1) (s2 := q + 7) (by omega) (wp_up (d := 37) (by omega) (Nat.le_refl _) (call9 z (by omega) (cs20 hU) (fun h1 N1 z1 => ret2 ?_)))
    refine L586_479 (s1 := 0 + 2 * 1) (s2 := q + 5) (by omega) ?_
    rcases Nat.lt_or_ge c (nM A) with hcm | hcm
    · have hl := dff_lt (nV A) U 12
      have e0 := lj_bit (m := dff (nV A) U 12) (k := c) (by omega) (by omega)
      rw [dff_bit, decide_eq_true (show c < 12 by omega)] at e0
      cases hs : smC (nV A) U c with
      | true =>
        rw [hs] at e0
        refine both9 z1 (by omega) (cs19z r1 (by decide) hU hcm hs) (cs19z (A := wY A Y') r2 (by decide) hU hcm hs) (fun h2 N2 N2' z2 => ret2 (B586_492 (fun _ => B586_525 (fun g => absurd (by rw [e0]; rfl) g) (fun _ => ?_)) (fun g => absurd g (by decide))))
        refine wp_up (Nat.le_refl _) (show q + 2 ≤ q + 5 by omega) (x586u (A1' := wY A Y') z2 (by omega) hU hU hcm hcm hs hs r1 r2 (fun h3 N3 N3' z3 => K _ _ _ _ _ _ _ bh ⟨LJ_up j, z3, by omega, ?_⟩))
        show zz + 0 + 2 * 0 + 2 * 0 + 78 * (nB A).length ≤ zz + 2 * (n + 1) + 78 * (nB A).length
        omega
      | false =>
        rw [hs] at e0
        have hs9 : ¬ smC (nV A) U c = true := by rw [hs]; decide
        have i1 := inv1_tk j.2.1.1.1 hUm hcm
        have i1' : inv1 (aTk (wY A Y') U c) bh := inv1_tk (A := wY A Y') j.2.2.1.1.1 hUm hcm
        have f12 : ∀ (RR : Nat → Rs) i, 12 ≤ i → fgt RR c i = RR i := fun RR i hi => if_neg (by omega)
        have kK : ∀ B : Nb, ∀ x, x < 12 → ∀ n v, (n, v) ∈ rK (tkR B U c x) → (n, v) ∈ rK ((nY B).1 x) := fun B x hx n v hv => by
          unfold tkR at hv
          split at hv
          · exact hv
          · exact fgt_K _ c x hx n v hv
        have k12 : ∀ B : Nb, ∀ i, 12 ≤ i → tkR B U c i = (nY B).1 i := fun B i hi => by
          unfold tkR
          split
          · rfl
          · exact f12 _ i hi
        have sT : sim (aTk A U c) (aTk (wY A Y') U c) := by
          refine ⟨rfl, rfl, rfl, rfl, rfl, rfl, rfl, ?_⟩
          show smY (tkR A U c, (nY A).2) (tkR (wY A Y') U c, Y'.2)
          unfold tkR
          by_cases g : ((nV A) c).1 = (U c).1
          · rw [if_pos g, if_pos (show ((nV (wY A Y')) c).1 = (U c).1 from g)]
            exact sy
          · rw [if_neg g, if_neg (show ¬ ((nV (wY A Y')) c).1 = (U c).1 from g)]
            exact fgt_P sy
        have w1 : WT (aTk A U c) n := WT_V j.2.2.2.2 rfl (fun x hx => by
          by_cases g : x = c
          · refine Or.inr ⟨U, hUm, ?_⟩
            show (vup (nV A) c (U c) x).2 = (U x).2
            unfold vup
            rw [if_pos g, g]
          · refine Or.inl ?_
            show cps (vup (nV A) c (U c) x).2 ≤ _
            unfold vup
            rw [if_neg g]
            exact Nat.le_refl _) (fun U hU => Or.inl hU)
        have jj : LJ (aS (aTk A U c) (cao (nO A))) (aS (aTk (wY A Y') U c) (cao (nO A))) bh (n + 1) (t + 50) := LJ_chg (A1 := aTk A U c) (A1' := aTk (wY A Y') U c) j sT i1 i1' rfl rfl (kK A) (kK (wY A Y')) (k12 A) (k12 (wY A Y')) rfl rfl w1
        have q1 := okq_rm (chg_ok (A1 := aTk A U c) (okp_q j.2.1) i1 rfl rfl (kK A) (k12 A) rfl) hn (W := Wo) (by decide)
        have q2 := okq_rm (chg_ok (A1 := aTk (wY A Y') U c) (okp_q j.2.2.1) i1' rfl rfl (kK (wY A Y')) (k12 (wY A Y')) rfl) hn (W := Wt) (by decide)
        have hsm : smC (vup (nV A) c (U c)) U c = true := by
          have e : vup (nV A) c (U c) c = U c := if_pos rfl
          unfold smC
          rw [e, ceq_rf]
          simp
        refine both9 z1 (by omega) (cs19 r1 (by decide) hU hcm hs9) (cs19 (A := wY A Y') r2 (by decide) hU hcm hs9) (fun h2 N2 N2' z2 => ret2 (B586_492 (fun _ => B586_525 (fun g => absurd (by rw [e0]; rfl) g) (fun _ => ?_)) (fun g => absurd g (by decide))))
        refine wp_up (Nat.le_refl _) (show q + 2 ≤ q + 5 by omega) (x586u (A1 := aS (aTk A U c) (cao (nO A))) (A1' := aS (aTk (wY A Y') U c) (cao (nO A))) z2 (by omega) hU hU hcm hcm hsm hsm q1 q2 (fun h3 N3 N3' z3 => K _ _ _ _ _ _ _ bh ⟨jj, z3, by omega, ?_⟩))
        show zz + 0 + 2 * 0 + 2 * 0 + 78 * (nB A).length ≤ zz + 2 * (n + 1) + 78 * (nB A).length
        omega
    · have hx : ∀ B : Nb, nB B = nB A → nM B = nM A → (i32 k < 0 ∨ ¬ i32 k < i32 (nB B).length) ∨ ∃ k2 U, i32 k = i32 k2 ∧ (nB B)[k2]? = some U ∧ (i32 c < 0 ∨ ¬ i32 c < i32 (nM B)) := fun B e1 e2 => Or.inr ⟨k, U, rfl, by rw [e1]; exact hU, Or.inr (fun g => by
        rw [e2] at g
        have := (i3_lt (by omega) (by omega)).mp g
        omega)⟩
      refine both9 z1 (by omega) (cs19x (hx A rfl rfl)) (cs19x (A := wY A Y') (hx _ rfl rfl)) (fun h2 N2 N2' z2 => ret2 (B586_492 (fun g => absurd rfl g) (fun _ => ?_)))
      refine B586_503 (xe1 := i32 (nB A).length) (row_ar (i := 3) z2.2.2.2.1 (by omega) rfl) (fun g => absurd ((i3_eq (by omega) (by omega)).mp g) (by omega)) (fun _ => B586_511 (xe1 := i32 (nM A)) (row_ar (i := 1) z2.2.2.2.1 (by omega) rfl) (fun g => absurd ((i3_lt (by omega) (by omega)).mp g) (by omega)) (fun _ => B586_519 (B586_524 (Or.inr rfl) (K _ _ _ _ _ _ _ bh ⟨LJ_up j, z2, by omega, ?_⟩))))
      show zz + 0 + 2 * 0 + 78 * (nB A).length ≤ zz + 2 * (n + 1) + 78 * (nB A).length
      omega
  · have hk2 : k = (nB A).length := by omega
    have hx : ¬ i32 k < i32 (nB A).length := fun g => by
      have := (i3_lt (by omega) (by omega)).mp g
      omega
    refine L586_468 (s1 := 0 + 1) (s2 := q + 7) (by omega) (wp_up (d := 37) (by omega) (Nat.le_refl _) (call9 z (by omega) (cs20x (Or.inr hx)) (fun h1 N1 z1 => ret2 ?_)))
    refine L586_479 (s1 := 0 + 2 * 1) (s2 := q + 5) (by omega) (both9 z1 (by omega) (cs19x (Or.inl (Or.inr hx))) (cs19x (A := wY A Y') (Or.inl (Or.inr hx))) (fun h2 N2 N2' z2 => ret2 (B586_492 (fun g => absurd rfl g) (fun _ => ?_))))
    refine B586_503 (xe1 := i32 (nB A).length) (row_ar (i := 3) z2.2.2.2.1 (by omega) rfl) (fun _ => B586_519 (B586_524 (Or.inr rfl) (K _ _ _ _ _ _ _ bh ⟨LJ_up j, z2, by omega, ?_⟩))) (fun g => absurd (by rw [hk2]) g)
    show zz + 0 + 2 * 0 + 78 * (nB A).length ≤ zz + 2 * (n + 1) + 78 * (nB A).length
    omega
theorem c586 {x x4 : Int32} (j : LJ A A' bh n t) (hn : n ≤ 79) (htt : t ≤ 100000000) (z : JH h A A' N N' ff zz (ds9 A bh)) (hf : ff + 10000000 < 2 ^ 62) (K : ∀ h' A1 A1' N1 N1' ff1 zz1 bh1, EN n t ff zz (nB A).length h' A1 A1' N1 N1' ff1 zz1 bh1 → Q 1 (.int 1) h') : wp SC 586 39 (q + 8) 0 [(0, .ref 0), (1, .ref 301), (2, .ref 602), (3, .int x), (4, .int x4)] [] h Q := by
  have hm12 := (NB_md z.1).1
  refine B586_0 (c577 (by omega) (by omega) (fun m hm => ret1 (B586_6 (xe1 := i32 (nM A)) (row_ar (i := 1) z.2.2.2.1 (by omega) rfl) ?_)))
  rw [i3_add]
  refine c577 (by omega) (by omega) (fun c hc => ret1 (B586_18 (fun _ => B586_114 (fun _ => B586_145 (fun _ => B586_213 (fun _ => B586_368 (fun _ => x586t j hn z hf (by omega) K) (fun _ => x586k j hn z hf K)) (fun _ => x586r j hn htt z hf (by omega) K)) (fun _ => x586m j hn z hf K)) (fun _ => x586s j hn z hf K)) (fun _ => x586i j hn z hf K)))
end O4
