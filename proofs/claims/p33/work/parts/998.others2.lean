theorem WT_aS {A : Nb} {u n : Nat} (h : WT A n) : WT (aS A u) n := by
  obtain ⟨w, h1, h2, h3⟩ := h
  exact ⟨w, h1, h2, h3⟩
theorem okp_t {A : Nb} {bh n t t' k : Nat} (h : okp A bh n t k) (ht : t ≤ t') : okp A bh n t' k := ⟨h.1, h.2.1, h.2.2.1, Nat.le_trans h.2.2.2.1 ht, h.2.2.2.2⟩
theorem LJ_mk {A1 A1' : Nb} {bh n t : Nat} (s : sim A1 A1') (a : okp A1 bh n t 12) (b : okp A1' bh n t 0) (hb : bh ≤ 1) (w : WT A1 n) : LJ A1 A1' bh n t := ⟨s, a, b, hb, w⟩
section O3
variable {SC : List Value} {q : Nat} {h : re_H} {Q : Nat → Value → re_H → Prop} {A A' A1 A1' : Nb} {bh n t ff zz c nm : Nat} {N N' : List Nat}
/-- what a run's answer has to be -/
theorem x586f {s ran r : Nat} {A1 A1' : Nb} {N1 N1' : List Nat} {ff1 zz1 : Nat} (z1 : JH h A1 A1' N1 N1' ff1 zz1 (ds9 A1 bh)) (hc : c < 12) (ht : ((nV A1) c).1 = true) (hran : ran ≤ nM A1) (hr : ((nY A1).1 c).2.1 = r ∨ ((nY A1).1 c).2.1 = r + 1) (hrb : r < 1000000000) (hs : ¬ nO A1 = 2 → (stl8 A1).testBit c = false) (h0 : nO A1 = 0 → ran = 0) (K : Q 1 (.int 1) h) : wp SC 586 39 s 264 [(0, .ref 0), (2, .ref 602), (6, .int (i32 c)), (7, .int (i32 1)), (8, .long (i32 r).toInt64)] [.long (i32 ran).toInt64] h Q := by
  obtain ⟨hm, ho⟩ := NB_md z1.1
  have fin : ∀ s, wp SC 586 39 s 345 [] [] h Q := fun s => B586_345 (B586_367 (Or.inr rfl) K)
  refine B586_264 (fun g => absurd g (by decide)) (fun _ => B586_271 (fun g => absurd g (lj_neg (by omega))) (fun _ => B586_278 (xe1 := i32 (nM A1)) (row_ar (i := 1) z1.2.2.2.1 (by omega) rfl) (fun g => absurd ((lj_lt (by omega) (by omega)).mp g) (by omega)) (fun _ => ?_)))
  refine L586_288 z1.1.1 rfl (s1 := 0) (s2 := s) (by omega) (wp_up (d := 1) (by omega) (Nat.le_refl _) (c39 (d := 0) hc ht z1.1 (ret1 (B586_294 (fun g => absurd ((lj_lt (by omega) (by omega)).mp g) (by omega)) (fun _ => ?_)))))
  refine L586_301 z1.1.1 rfl (s1 := 0) (s2 := s) (by omega) (wp_up (d := 1) (by omega) (Nat.le_refl _) (c39 (d := 0) hc ht z1.1 (ret1 (B586_307 (fun g => absurd g ?_) (fun _ => ?_)))))
  · have e : (i32 r).toInt64 + 1 = (i32 (r + 1)).toInt64 := by
      rw [lj_nat (by omega), lj_nat (by omega), show (1 : Int64) = Int64.ofNat 1 from rfl, ← Int64.ofNat_add]
    rw [e, lj_lt (by omega) (by omega)]
    omega
  · refine B586_316 (xe1 := i32 (nO A1)) (row_ar (i := 2) z1.2.2.2.1 (by omega) rfl) (fun _ => fin _) (fun g => ?_)
    have g2 : ¬ nO A1 = 2 := fun y => g (by rw [y])
    refine L586_323 z1.1.1 rfl (s1 := 0) (s2 := s) (by omega) (wp_up (d := 35) (by omega) (Nat.le_refl _) (c32 (d := 0) hc ht z1.1 (ret1 (B586_329 (fun y => absurd (by rw [hs g2]; rfl) y) (fun _ => ?_)))))
    refine B586_332 (xe1 := i32 (nO A1)) (row_ar (i := 2) z1.2.2.2.1 (by omega) rfl) (fun _ => fin _) (fun g3 => B586_338 (fun y => absurd ?_ y) (fun _ => fin _))
    have : nO A1 = 0 := by
      rcases Nat.eq_zero_or_pos (nO A1) with y | y
      · exact y
      · exact absurd ((i3_pos (by omega)).mpr y) g3
    rw [h0 this]
    decide
theorem x586r (j : LJ A A' bh n t) (hn : n ≤ 79) (htt : t ≤ 100000000) (z : JH h A A' N N' ff zz (ds9 A bh)) (hf : ff + 10000000 < 2 ^ 62) (hc : c ≤ nM A) (K : ∀ h' A1 A1' N1 N1' ff1 zz1 bh1, EN n t ff zz (nB A).length h' A1 A1' N1 N1' ff1 zz1 bh1 → Q 1 (.int 1) h') : wp SC 586 39 (q + 8) 220 [(0, .ref 0), (1, .ref 301), (2, .ref 602), (6, .int (i32 c))] [] h Q := by
  obtain ⟨r1, r2⟩ := LJ_rm j hn
  obtain ⟨hm12, ho2⟩ := NB_md z.1
  rcases noc_or A c hc hm12 with hx | ⟨hc12, ht⟩
  · obtain ⟨Y', rfl, sy⟩ := sim_tu j.1
    refine L586_220 (s1 := 0 + 1) (s2 := q + 7) (by omega) (x585o (pc := 0) hx z (by omega) (fun h1 N1 z1 => ret2 (B586_229 (fun _ => B586_240 ?_) (fun g => absurd rfl g))))
    refine L586_241 (s1 := 0 + 1) (s2 := q + 6) (by omega) (wp_up (d := 37) (by omega) (Nat.le_refl _) (call9 z1 (by omega) (cs29x hx) (fun h2 N2 z2 => ret2 ?_)))
    refine L586_252 (s1 := 0 + 2 * 1) (s2 := q + 4) (by omega) (both9 z2 (by omega) (cs17x hx) (cs17x (A := wY A Y') hx) (fun h3 N3 N3' z3 => ret2 (B586_264 (fun _ => B586_353 (fun g => absurd rfl g) (fun _ => B586_362 (B586_367 (Or.inr rfl) (K _ _ _ _ _ _ _ bh ⟨LJ_up j, z3, by omega, ?_⟩)))) (fun g => absurd rfl g))))
    show zz + 0 + 0 + 2 * 0 + 78 * (nB A).length ≤ zz + 2 * (n + 1) + 78 * (nB A).length
    omega
  · have hT : ((nY A).1 c).2.1 ≤ t := by
      obtain ⟨-, -, -, -, -, -, -, -, -, -, -, y, -⟩ := j.2.1.1.1
      have := y c (by omega)
      have := j.2.1.2.2.2.1
      omega
    refine L586_220 (s1 := 0 + 1) (s2 := q + 7) (by omega) (wp_up (d := 37) (by omega) (Nat.le_refl _) (call9 z (by omega) (cs21 hc12 ht) (fun h1 N1 z1 => ret2 (B586_229 (fun g => absurd g (er_OUT j.2.1.1.1 hc12)) (fun _ => B586_236 ?_)))))
    refine L586_241 (s1 := 0 + 1) (s2 := q + 6) (by omega) (wp_up (d := 37) (by omega) (Nat.le_refl _) (call9 z1 (by omega) (cs29 hc12 ht) (fun h2 N2 z2 => ret2 ?_)))
    refine L586_252 (s1 := 0 + 2 * 1) (s2 := q + 4) (by omega) ?_
    by_cases ho : nO A = 2
    · obtain ⟨a1, a2, a3, a4, a5⟩ := hand_ok j.2.1 ho hc12 ht
      have sR : sim (aR A c) (aR A' c) := by
        obtain ⟨⟨F, G, h6⟩, hb⟩ : (∃ F G, Rok F G (nY A).2.1 bh (nY A).1) ∧ (nO A = 2 → bh = 1) := ⟨j.2.1.1.1.2.2.2.2.2.1, j.2.1.1.1.2.2.2.2.2.2.1⟩
        obtain ⟨s1, s2, s3, s4, s5, s6, s7, s8⟩ := j.1
        refine ⟨s1, s2, s3, s4, s5, s6, s7, ?_⟩
        show smY (rOn (nV A) (nIp A) (nS A) 0 c (nY A)) (rOn (nV A') (nIp A') (nS A') 0 c (nY A'))
        rw [← s2, ← s4, ← s5]
        exact rOn_P hc12 s8 (Rok_1 h6)
      have e2 : nV A = nV A' := j.1.2.1
      have ho' : nO A' = 2 := j.1.2.2.2.2.2.1.symm.trans ho
      have ht' : ((nV A') c).1 = true := by rw [← e2]; exact ht
      obtain ⟨b1, b2, b3, b4, b5⟩ := hand_ok j.2.2.1 ho' hc12 ht'
      have cb := cs17h (SC := SC) (A := A') (W := Wt) (y := i32 0) r2 (by decide) hc12 ht' ho'
      rw [← e2] at cb
      refine both9 z2 (by omega) (cs17h r1 (by decide) hc12 ht ho) cb (fun h3 N3 N3' z3 => ret2 ?_)
      have hr1 : rOr (nV A) c ≤ 1 := by unfold rOr; split <;> omega
      have hm3 := j.2.1.2.2.2.2
      refine x586f (A1 := aR A c) z3 hc12 ht (by show _ ≤ nM A; omega) ?_ (by omega) (fun y => absurd ho y) (fun y => by have y : nO A = 0 := y; omega) (K _ _ _ _ _ _ _ bh ⟨⟨sR, ⟨a1, a2, a3, by omega, a5⟩, ⟨b1, b2, b3, by omega, b5⟩, j.2.2.2.1, WT_up (A := aR A c) (n := n) j.2.2.2.2 (by omega)⟩, z3, by omega, ?_⟩)
      · have := rOn_runs (V := nV A) (I := nIp A) (sd := nS A) (st0 := 0) (c := c) (Y := nY A)
        rw [Nat.zero_add] at this
        have this : ((nY (aR A c)).1 c).2.1 = ((nY A).1 c).2.1 + rOr (nV A) c := this
        omega
      · show zz + 0 + 0 + 2 * 0 + 78 * (nB A).length ≤ zz + 2 * (n + 1) + 78 * (nB A).length
        omega
    · have hw := wcl_wn (nV A) hc12
      have na := need_ok j.2.1 ho hw
      obtain ⟨r5, r6, r7⟩ := need_ran j.2.1.1 hw
      obtain ⟨k1, k2, k3, k4, k5⟩ := aS_inv1 j.2.1.1.1 hw
      obtain ⟨sS, sn⟩ := sim_aS (w := wn (nV A) 12 c ||| 2 ^ c) j.2.1.1.1 j.1
      have e2 : nV A = nV A' := j.1.2.1
      have ho' : ¬ nO A' = 2 := fun y => ho (j.1.2.2.2.2.2.1.trans y)
      have ht' : ((nV A') c).1 = true := by rw [← e2]; exact ht
      have hw' : wcl (nV A') (wn (nV A) 12 c ||| 2 ^ c) := by rw [← e2]; exact hw
      have nb := need_ok j.2.2.1 ho' hw'
      have cb := cs17 (SC := SC) (A := A') (W := Wt) (y := i32 0) r2 (by decide) hc12 ht' ho'
      obtain ⟨u, hu⟩ : ∃ u, u = wn (nV A) 12 c ||| 2 ^ c := ⟨_, rfl⟩
      have hu' : wn (nV A') 12 c ||| 2 ^ c = u := by rw [← e2]; exact hu.symm
      have ca := cs17 (SC := SC) (A := A) (W := Wo) (y := i32 0) r1 (by decide) hc12 ht ho
      have st := stl_ns j.2.1.1.1.1.1 hw k2 k3 c hc12 (Or.inl ⟨by rw [Nat.testBit_or, Nat.testBit_two_pow]; simp, ht⟩)
      have hrun : ((nY (aS A (wn (nV A) 12 c ||| 2 ^ c))).1 c).2.1 = ((nY A).1 c).2.1 ∨ ((nY (aS A (wn (nV A) 12 c ||| 2 ^ c))).1 c).2.1 = ((nY A).1 c).2.1 + 1 := by
        obtain ⟨-, -, -, -, -, -, -, -, y, -⟩ := k2
        exact y c
      rw [hu'] at cb
      have st2 : (stl8 (aS A (wn (nV A) 12 c ||| 2 ^ c))).testBit c = false := Bool.eq_false_iff.mpr st
      clear st k1 k2 k3 k4 k5
      rw [← hu] at ca sS sn r5 na nb st2 hrun
      rw [← sn] at cb
      obtain ⟨rn, hrn⟩ : ∃ r, r = (stl (nV A) (nIp A) (nS A) 0 u (nY A)).2.1 := ⟨_, rfl⟩
      rw [← hrn] at ca cb r5
      have r8 : rn ≤ nM A := Nat.le_trans (Nat.le_trans (Nat.le_add_right _ _) r5) r6
      have r9 : nO A = 0 → rn = 0 := fun y => Nat.le_zero.mp (Nat.le_trans (Nat.le_trans (Nat.le_add_right _ _) r5) (Nat.le_of_eq (r7 y)))
      have jj : LJ (aS A u) (aS A' u) bh (n + 1) (t + 50) := LJ_mk sS (okp_t na (Nat.add_le_add_left (by decide) t)) (okp_t nb (Nat.add_le_add_left (by decide) t)) j.2.2.2.1 (WT_up (WT_aS j.2.2.2.2) (Nat.le_succ n))
      have m1 : nM (aS A u) = nM A := rfl
      have m2 : nO (aS A u) = nO A := rfl
      have m3 : nV (aS A u) = nV A := rfl
      have m4 : ds9 (aS A u) bh = ds9 A bh := rfl
      have m5 : nB (aS A u) = nB A := rfl
      obtain ⟨A1, hA1⟩ : ∃ B, B = aS A u := ⟨_, rfl⟩
      obtain ⟨A1', hA1'⟩ : ∃ B, B = aS A' u := ⟨_, rfl⟩
      rw [← hA1] at ca jj m1 m2 m3 m4 m5 st2 hrun
      rw [← hA1'] at cb jj
      clear hA1 hA1' sS sn na nb hrn
      refine both9 z2 (by omega) ca cb (fun h3 N3 N3' z3 => ret2 ?_)
      rw [← m4] at z3
      refine x586f (A1 := A1) (ran := rn) z3 hc12 (by rw [m3]; exact ht) (by rw [m1]; exact r8) hrun (by omega) (fun _ => st2) (fun y => r9 (m2.symm.trans y)) (K _ _ _ _ _ _ _ bh ⟨jj, z3, by omega, ?_⟩)
      rw [m5]
      omega
end O3
