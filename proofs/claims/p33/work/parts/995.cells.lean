/-! The law's cells. -/
section CL
variable {SC : List Value} {q : Nat} {h : re_H} {Q : Nat → Value → re_H → Prop} {A A' A1 A1' : Nb} {bh n t ff zz c nm : Nat} {N N' : List Nat}
theorem ds9_e {A A1 : Nb} (e1 : (nP A1).length = (nP A).length) (e2 : nM A1 = nM A) (e3 : nO A1 = nO A) (e4 : nB A1 = nB A) : ds9 A1 bh = ds9 A bh := by
  unfold ds9
  rw [e1, e2, e3, e4]
/-- a cell that is not there: still not there -/
theorem x585o {s pc : Nat} {R : Nat → Value → re_H → Prop} {ds : List Value} (hx : noc A (i32 c)) (z : JH h A A' N N' ff zz ds) (hf : ff + 1000000 < 2 ^ 62) (K : ∀ h' N1, JH h' A A' N1 N' (ff + 36000) (zz + 0) ds → R 2 (.long OUT9) h') : wp SC 579 38 (s + 1) 0 [(0, .ref 0), (1, .int (i32 21)), (2, .int (i32 c)), (3, .int (i32 0))] [] h R :=
  wp_up (d := 37) (by omega) (Nat.le_refl _) (call9 z (by omega) (cs21x hx) K)
theorem x585d (j : LJ A A' bh n t) (hn : n ≤ 79) (z : JH h A A' N N' ff zz (ds9 A bh)) (hf : ff + 10000000 < 2 ^ 62) (hc : c ≤ nM A) (hnm : nm < 6) (K : ∀ h' A1 A1' N1 N1' ff1 zz1 bh1, EN n t ff zz (nB A).length h' A1 A1' N1 N1' ff1 zz1 bh1 → Q 1 (.int 1) h') : wp SC 585 39 (q + 8) 38 [(0, .ref 0), (1, .ref 301), (2, .ref 602), (6, .int (i32 c)), (7, .int (i32 nm))] [] h Q := by
  obtain ⟨r1, r2⟩ := LJ_rm j hn
  have hm12 := (NB_md z.1).1
  have h20 := NB_20 z.1
  obtain ⟨Y', rfl, sy⟩ := sim_tu j.1
  have low : ∀ (l : Int64) h1 A2 A2' N1 N1' f2, JH h1 A2 A2' N1 N1' f2 zz (ds9 A bh) → ¬ (0 : Int64) < l → (∀ h2, JH h2 A2 A2' N1 N1' f2 zz (ds9 A bh) → wp SC 585 39 (q + 6) 69 [(0, .ref 0), (6, .int (i32 c)), (8, .long l)] [] h2 Q) → wp SC 585 39 (q + 6) 49 [(0, .ref 0), (2, .ref 602), (6, .int (i32 c))] [.long l] h1 Q := fun l h1 A2 A2' N1 N1' f2 z1 hl k => by
    refine B585_49 (xe1 := i32 (nP A).length) (row_ar (i := 0) z1.2.2.2.1 (by omega) rfl) (fun _ => B585_66 (B585_67 (i := 0) z1.2.2.2.1 rfl (by omega) (by show 0 < 5; omega) (k _ ?_))) (fun g => absurd g hl)
    have z2 := JH_w (ds1 := (ds9 A bh).set 0 (.int (i32 (nP A).length - i32 0))) z1
    have e : (ds9 A bh).set 0 (.int (i32 (nP A).length - i32 0)) = ds9 A bh := by
      rw [i3_sub (Nat.zero_le _), Nat.sub_zero]
      rfl
    rw [e] at z2 ⊢
    exact z2
  refine L585_38 (s1 := 0 + 2 * 1) (s2 := q + 6) (by omega) ?_
  rcases noc_or A c hc hm12 with hx | ⟨hc12, ht⟩
  · refine both9 z (by omega) (cs10x hx) (cs10x (A := wY A Y') hx) (fun h1 N1 N1' z1 => ret2 (low _ _ _ _ _ _ _ z1 (by decide) (fun h2 z2 => B585_69 (fun g => absurd rfl g) (fun _ => ?_))))
    refine L585_78 (s1 := 0 + 1) (s2 := q + 5) (by omega) (x585o (pc := 0) hx z2 (by omega) (fun h3 N3 z3 => ret2 (B585_87 (fun g => absurd rfl g) (fun _ => B585_94 (B585_150 (Or.inr rfl) (K _ _ _ _ _ _ _ bh ⟨LJ_up j, z3, by omega, ?_⟩))))))
    show zz + 2 * 0 + 0 + 78 * (nB A).length ≤ zz + 2 * (n + 1) + 78 * (nB A).length
    omega
  · by_cases hd : noDef A c nm
    · refine both9 z (by omega) (cs10n r1 (by decide) hc12 (by omega) ht hd) (cs10n (A := wY A Y') r2 (by decide) hc12 (by omega) ht hd) (fun h1 N1 N1' z1 => ret2 (low _ _ _ _ _ _ _ z1 (by decide) (fun h2 z2 => B585_69 (fun _ => B585_102 (fun _ => B585_145 (B585_150 (Or.inr rfl) (K _ _ _ _ _ _ _ bh ⟨LJ_up j, z2, by omega, ?_⟩))) (fun g => absurd rfl g)) (fun g => absurd g (by decide)))))
      show zz + 2 * 0 + 78 * (nB A).length ≤ zz + 2 * (n + 1) + 78 * (nB A).length
      omega
    · have hP : ¬ nP A = [] := fun y => hd (Or.inl y)
      have i1 := inv1_def j.2.1.1.1 hc12 hnm ht hd hP
      have i1' : inv1 (aDef (wY A Y') c nm) bh := inv1_def (A := wY A Y') j.2.2.1.1.1 hc12 hnm ht hd hP
      obtain ⟨-, hvn, -⟩ := j.2.1.1.1.1
      obtain ⟨v1, v2, v3⟩ := hvn c hc12
      obtain ⟨p1, p2, p3⟩ := cput_ok (e := tp (nP A)) v2 v3 (fun e => by
        rcases Nat.lt_or_ge ((nV A) c).2.length 4 with g | g
        · exact g
        · exact absurd (Or.inr ⟨e, g⟩) hd)
      obtain ⟨l, hl⟩ : ∃ l, l = (cput ((nV A) c).2 nm (tp (nP A))).length := ⟨_, rfl⟩
      have k0 : 1 ≤ (nP A).length := by
        rcases Nat.eq_zero_or_pos (nP A).length with g | g
        · exact absurd (List.length_eq_zero_iff.mp g) hP
        · exact g
      obtain ⟨d1, d2, d3, d4⟩ := dl9 k0
      have w1 : WT (aDef A c nm) n := by
        obtain ⟨w, w1, w2, w3⟩ := j.2.2.2.2
        refine ⟨fun i => if i = c then w i + pts (tp (nP A)) else w i, ?_, fun x hx => ?_, fun U hU x hx => ?_⟩
        · rw [wsm_up, if_pos hc12]
          show wsm w 12 + pts (tp (nP A)) + psum (nP A).dropLast ≤ n
          omega
        · show cps ((vup (nV A) c (((nV A) c).1, cput ((nV A) c).2 nm (tp (nP A)))) x).2 ≤ if x = c then w x + pts (tp (nP A)) else w x
          unfold vup
          split
          next g =>
            have := w2 c hc12
            have hp : cps (cput ((nV A) c).2 nm (tp (nP A))) ≤ cps ((nV A) c).2 + pts (tp (nP A)) := cps_put
            rw [g]
            show cps (cput ((nV A) c).2 nm (tp (nP A))) ≤ _
            omega
          next => exact w2 x hx
        · show cps (U x).2 ≤ if x = c then w x + pts (tp (nP A)) else w x
          have := w3 U hU x hx
          split <;> omega
      have jj : LJ (aS (aDef A c nm) (cao (nO A))) (aS (aDef (wY A Y') c nm) (cao (nO A))) bh (n + 1) (t + 50) := LJ_chg (A1 := aDef A c nm) (A1' := aDef (wY A Y') c nm) j ⟨rfl, rfl, rfl, rfl, rfl, rfl, rfl, sy⟩ i1 i1' rfl rfl (fun _ _ _ _ y => y) (fun _ _ _ _ y => y) (fun _ _ => rfl) (fun _ _ => rfl) rfl rfl w1
      have cc := cs10 (SC := SC) (A := A) (W := Wo) r1 (by decide) hc12 (show nm < 16 by omega) ht hd
      have cc' := cs10 (SC := SC) (A := wY A Y') (W := Wt) r2 (by decide) hc12 (show nm < 16 by omega) ht hd
      rw [← hl] at cc p2 p3
      have cc' : CS SC (i32 10) (i32 c) (i32 nm) (wY A Y') Wt (i32 l).toInt64 (aS (aDef (wY A Y') c nm) (cao (nO A))) 0 1 := by rw [hl]; exact cc'
      refine both9 z (by omega) cc cc' (fun h1 N1 N1' z1 => ret2 ?_)
      refine B585_49 (xe1 := i32 (nP A).length) (row_ar (i := 0) z1.2.2.2.1 (by omega) rfl) (fun g => absurd ((lj_pos (by omega)).mpr (by omega)) g) (fun _ => B585_62 (B585_67 (i := 0) z1.2.2.2.1 rfl (by omega) (by show 0 < 5; omega) (B585_69 (fun _ => B585_102 (fun g => absurd g (lj_NOT (by omega))) (fun _ => B585_111 (fun g => absurd ((lj_pos (by omega)).mpr (by omega)) g) (fun _ => B585_118 (fun g => absurd ?_ g) (fun _ => ?_)))) (fun g => absurd g (lj_OUT (by omega))))))
      · rw [show (5 : Int64) = (i32 5).toInt64 by decide]
        exact (lj_lt (by omega) (by omega)).mpr (by omega)
      · have z2 := JH_w (ds1 := (ds9 A bh).set 0 (.int (i32 (nP A).length - i32 1))) z1
        have e : (ds9 A bh).set 0 (.int (i32 (nP A).length - i32 1)) = ds9 (aS (aDef A c nm) (cao (nO A))) bh := by
          rw [i3_sub k0]
          show [_, _, _, _, _] = [Value.int (i32 (nP A).dropLast.length), _, _, _, _]
          rw [show (nP A).dropLast.length = (nP A).length - 1 by omega]
          rfl
        rw [e] at z2 ⊢
        have hc1 : ((nV (aS (aDef A c nm) (cao (nO A)))) c).1 = true := by
          show (vup (nV A) c (((nV A) c).1, cput ((nV A) c).2 nm (tp (nP A))) c).1 = true
          unfold vup
          rw [if_pos rfl]
          exact ht
        have hr : rds ((nV (aS (aDef A c nm) (cao (nO A)))) c).2 < 64 := by
          obtain ⟨-, y, -⟩ := jj.2.1.1.1.1
          exact rds_64 (fun x hx => ((y c hc12).1 x hx).2.2)
        refine L585_127 z2.1.1 rfl (s1 := 0) (s2 := q + 6) (by omega) (wp_up (d := 1) (by omega) (Nat.le_refl _) (c37 (d := 0) hc12 hc1 z2.1 (ret1 ?_)))
        refine L585_133 z2.1.1 rfl (s1 := 0) (s2 := q + 6) (by omega) (wp_up (d := 1) (by omega) (Nat.le_refl _) (c37 (d := 0) hc12 hc1 z2.1 (ret1 (B585_142 (fun g => absurd ?_ g) (fun _ => B585_145 (B585_150 (Or.inr rfl) (K _ _ _ _ _ _ _ bh ⟨jj, z2, by omega, ?_⟩)))))))
        · rw [i3_and, show (63 : Nat) = 2 ^ 6 - 1 from rfl, Nat.and_two_pow_sub_one_eq_mod, Nat.mod_eq_of_lt hr]
        · show zz + 2 * 0 + 78 * (nB A).length ≤ zz + 2 * (n + 1) + 78 * (nB A).length
          omega
theorem x585r (j : LJ A A' bh n t) (hn : n ≤ 79) (z : JH h A A' N N' ff zz (ds9 A bh)) (hf : ff + 10000000 < 2 ^ 62) (hc : c ≤ nM A) (hnm : nm < 6) (K : ∀ h' A1 A1' N1 N1' ff1 zz1 bh1, EN n t ff zz (nB A).length h' A1 A1' N1 N1' ff1 zz1 bh1 → Q 1 (.int 1) h') : wp SC 585 39 (q + 8) 158 [(0, .ref 0), (1, .ref 301), (2, .ref 602), (6, .int (i32 c)), (7, .int (i32 nm))] [] h Q := by
  obtain ⟨r1, r2⟩ := LJ_rm j hn
  have hm12 := (NB_md z.1).1
  obtain ⟨Y', rfl, sy⟩ := sim_tu j.1
  refine L585_158 (s1 := 0 + 2 * 1) (s2 := q + 6) (by omega) ?_
  rcases noc_or A c hc hm12 with hx | ⟨hc12, ht⟩
  · refine both9 z (by omega) (cs11x hx) (cs11x (A := wY A Y') hx) (fun h1 N1 N1' z1 => ret2 (B585_169 (fun g => absurd rfl g) (fun _ => ?_)))
    refine L585_180 (s1 := 0 + 1) (s2 := q + 5) (by omega) (x585o (pc := 0) hx z1 (by omega) (fun h3 N3 z3 => ret2 (B585_189 (fun g => absurd rfl g) (fun _ => B585_196 (B585_285 (Or.inr rfl) (K _ _ _ _ _ _ _ bh ⟨LJ_up j, z3, by omega, ?_⟩))))))
    show zz + 2 * 0 + 0 + 78 * (nB A).length ≤ zz + 2 * (n + 1) + 78 * (nB A).length
    omega
  · cases hp : pof nm ((nV A) c).2 with
    | none =>
      refine both9 z (by omega) (cs11n r1 (by decide) hc12 (by omega) ht hp) (cs11n (A := wY A Y') r2 (by decide) hc12 (by omega) ht hp) (fun h1 N1 N1' z1 => ret2 (B585_169 (fun _ => B585_204 (fun _ => B585_280 (B585_285 (Or.inr rfl) (K _ _ _ _ _ _ _ bh ⟨LJ_up j, z1, by omega, ?_⟩))) (fun g => absurd rfl g)) (fun g => absurd g (by decide))))
      show zz + 2 * 0 + 78 * (nB A).length ≤ zz + 2 * (n + 1) + 78 * (nB A).length
      omega
    | some i =>
      have i1 := inv1_drp j.2.1.1.1 hc12 ht hp
      have i1' : inv1 (aDrp (wY A Y') c i) bh := inv1_drp (A := wY A Y') j.2.2.1.1.1 hc12 ht hp
      obtain ⟨-, hvn, -⟩ := j.2.1.1.1.1
      obtain ⟨v1, v2, v3⟩ := hvn c hc12
      obtain ⟨e1, e2, e3⟩ := erase_ok v2 hp
      have w1 : WT (aDrp A c i) n := WT_V j.2.2.2.2 rfl (fun x hx => Or.inl (by
        show cps ((vup (nV A) c (((nV A) c).1, ((nV A) c).2.eraseIdx i)) x).2 ≤ _
        unfold vup
        split
        next g => rw [g]; exact sum_era
        next => exact Nat.le_refl _)) (fun U hU => Or.inl hU)
      have jj : LJ (aS (aDrp A c i) (cao (nO A))) (aS (aDrp (wY A Y') c i) (cao (nO A))) bh (n + 1) (t + 50) := LJ_chg (A1 := aDrp A c i) (A1' := aDrp (wY A Y') c i) j ⟨rfl, rfl, rfl, rfl, rfl, rfl, rfl, sy⟩ i1 i1' rfl rfl (fun _ _ _ _ y => y) (fun _ _ _ _ y => y) (fun _ _ => rfl) (fun _ _ => rfl) rfl rfl w1
      have hV1 : (nV (aS (aDrp A c i) (cao (nO A)))) c = (((nV A) c).1, ((nV A) c).2.eraseIdx i) := by
        show vup (nV A) c (((nV A) c).1, ((nV A) c).2.eraseIdx i) c = _
        unfold vup
        exact if_pos rfl
      have hV2 : (nV (aS (aDrp (wY A Y') c i) (cao (nO A)))) c = (((nV A) c).1, ((nV A) c).2.eraseIdx i) := hV1
      obtain ⟨l, hl⟩ : ∃ l, l = (((nV A) c).2.eraseIdx i).length := ⟨_, rfl⟩
      have cc := cs11 (SC := SC) (A := A) (W := Wo) r1 (by decide) hc12 (show nm < 16 by omega) ht hp
      have cc' : CS SC (i32 11) (i32 c) (i32 nm) (wY A Y') Wt (i32 (((nV A) c).2.eraseIdx i).length).toInt64 (aS (aDrp (wY A Y') c i) (cao (nO A))) 0 1 := cs11 (SC := SC) (A := wY A Y') (W := Wt) r2 (by decide) hc12 (show nm < 16 by omega) ht hp
      rw [← hl] at cc cc' e3
      have jr := LJ_rm (n := n) (A := aS (aDrp A c i) (cao (nO A))) (A' := aS (aDrp (wY A Y') c i) (cao (nO A))) (bh := bh) (t := t + 50)
      have q1 := okq_rm (chg_ok (A1 := aDrp A c i) (okp_q j.2.1) i1 rfl rfl (fun _ _ _ _ y => y) (fun _ _ => rfl) rfl) hn (W := Wo) (by decide)
      have q2 := okq_rm (chg_ok (A1 := aDrp (wY A Y') c i) (okp_q j.2.2.1) i1' rfl rfl (fun _ _ _ _ y => y) (fun _ _ => rfl) rfl) hn (W := Wt) (by decide)
      refine both9 z (by omega) cc cc' (fun h1 N1 N1' z1 => ret2 (B585_169 (fun _ => B585_204 (fun g => absurd g (lj_NOT (by omega))) (fun _ => B585_213 (fun g => absurd g (lj_neg (by omega))) (fun _ => B585_220 (fun g => absurd ?_ g) (fun _ => ?_)))) (fun g => absurd g (lj_OUT (by omega)))))
      · rw [show (4 : Int64) = (i32 4).toInt64 by decide]
        exact (lj_lt (by omega) (by omega)).mpr (by omega)
      · have hpn : pof nm ((nV (aS (aDrp A c i) (cao (nO A)))) c).2 = none := by rw [hV1]; exact e2
        have ht1 : ((nV (aS (aDrp A c i) (cao (nO A)))) c).1 = true := by rw [hV1]; exact ht
        have at246 : wp SC 585 39 (q + 6) 246 [(0, .ref 0), (1, .ref 301), (6, .int (i32 c)), (7, .int (i32 nm))] [] h1 Q := by
          refine L585_246 (s1 := 0 + 1) (s2 := q + 5) (by omega) (wp_up (d := 37) (by omega) (Nat.le_refl _) (call9 z1 (by omega) (cs11n q1 (by decide) hc12 (by omega) ht1 hpn) (fun h2 N2 z2 => ret2 (B585_256 (fun g => absurd rfl g) (fun _ => ?_)))))
          refine L585_263 (s1 := 0 + 1) (s2 := q + 4) (by omega) (wp_up (d := 37) (by omega) (Nat.le_refl _) (calt9 z2 (by omega) (cs11n q2 (by decide) hc12 (by omega) ht1 hpn) (fun h3 N3 z3 => ret2 (B585_273 (fun g => absurd rfl g) (fun _ => B585_280 (B585_285 (Or.inr rfl) (K _ _ _ _ _ _ _ bh ⟨jj, z3, by omega, ?_⟩)))))))
          show zz + 2 * 0 + 0 + 0 + 78 * (nB A).length ≤ zz + 2 * (n + 1) + 78 * (nB A).length
          omega
        have ho2 := (NB_md z.1).2
        refine B585_229 (xe1 := i32 (nO A)) (row_ar (i := 2) z1.2.2.2.1 (by omega) rfl) (fun _ => at246) (fun g => ?_)
        have h0 : nO A = 0 := by
          rcases Nat.eq_zero_or_pos (nO A) with y | y
          · exact y
          · exact absurd ((i3_pos (by omega)).mpr y) g
        refine L585_235 z1.1.1 rfl (s1 := 0) (s2 := q + 6) (by omega) (wp_up (d := 2) (by omega) (Nat.le_refl _) (c33 (d := 0) hc12 (by omega) ht1 z1.1 (ret1 (B585_243 (fun y => absurd ?_ y) (fun _ => at246)))))
        rw [kp_no jj.2.1.1.1 hc12 (Bool.eq_false_iff.mpr (jj.2.1.1.2 h0 c hc12)) ht1 hpn]
        rfl
theorem x585c (j : LJ A A' bh n t) (hn : n ≤ 79) (z : JH h A A' N N' ff zz (ds9 A bh)) (hf : ff + 10000000 < 2 ^ 62) (K : ∀ h' A1 A1' N1 N1' ff1 zz1 bh1, EN n t ff zz (nB A).length h' A1 A1' N1 N1' ff1 zz1 bh1 → Q 1 (.int 1) h') : wp SC 585 39 (q + 8) 293 [(0, .ref 0), (1, .ref 301), (2, .ref 602)] [] h Q := by
  obtain ⟨r1, r2⟩ := LJ_rm j hn
  have hm12 := (NB_md z.1).1
  obtain ⟨Y', rfl, sy⟩ := sim_tu j.1
  refine L585_293 (s1 := 0 + 2 * 1) (s2 := q + 6) (by omega) ?_
  rcases Nat.lt_or_ge (nM A) 12 with hm | hm
  · refine both9 z (by omega) (cs9 r1 (by decide) hm) (cs9 (A := wY A Y') r2 (by decide) hm) (fun h1 N1 N1' z1 => ret2 ?_)
    have jj : LJ (aS (aCell A) (cao (nO A))) (aS (aCell (wY A Y')) (cao (nO A))) bh (n + 1) (t + 50) := by
      obtain ⟨a1, a2, a3, a4, a5⟩ := cell_ok j.2.1 hm
      obtain ⟨b1, b2, b3, b4, b5⟩ := cell_ok (A := wY A Y') j.2.2.1 hm
      refine ⟨(sim_aS (A := aCell A) (A' := aCell (wY A Y')) (inv1_cell j.2.1.1.1 hm) ⟨rfl, rfl, rfl, rfl, rfl, rfl, rfl, sy⟩).1, ⟨a1, a2, a3, by omega, a5⟩, ⟨b1, b2, b3, Nat.le_trans b4 (by omega), b5⟩, j.2.2.2.1, ?_⟩
      exact WT_up (WT_V (A1 := aS (aCell A) (cao (nO A))) j.2.2.2.2 rfl (fun x hx => Or.inl (by
        show cps ((nV (aCell A)) x).2 ≤ _
        rw [cell_v2 j.2.1.1.1 x]
        exact Nat.le_refl _)) (fun U hU => Or.inl hU)) (by omega)
    refine B585_302 (xe1 := i32 (nM A)) (row_ar (i := 1) z1.2.2.2.1 (by omega) rfl) (fun g => absurd g (lj_neg (by omega))) (fun _ => B585_315 (B585_320 (i := 1) z1.2.2.2.1 rfl (by omega) (by show 1 < 5; omega) (B585_322 (fun _ => ?_) (fun g => absurd g (lj_NOT (by omega))))))
    have z2 := JH_w (ds1 := (ds9 A bh).set 1 (.int (i32 (nM A) + i32 1))) z1
    have e : (ds9 A bh).set 1 (.int (i32 (nM A) + i32 1)) = ds9 (aS (aCell A) (cao (nO A))) bh := by
      rw [i3_add]
      rfl
    refine B585_347 (xe1 := i32 (nM A) + i32 1) (row_ar (i := 1) z2.2.2.2.1 (by omega) rfl) (fun g => absurd ?_ g) (fun _ => B585_359 (B585_364 (Or.inr rfl) (K _ _ _ _ _ _ _ bh ⟨jj, by rw [e] at z2 ⊢; exact z2, by omega, ?_⟩)))
    · rw [i3_add, i3_sub (by omega), show nM A + 1 - 1 = nM A by omega]
      exact lc_rf _
    · show zz + 2 * 0 + 78 * (nB A).length ≤ zz + 2 * (n + 1) + 78 * (nB A).length
      omega
  · have h12 : nM A = 12 := by omega
    refine both9 z (by omega) (cs9n r1 (by decide) h12) (cs9n (A := wY A Y') r2 (by decide) h12) (fun h1 N1 N1' z1 => ret2 ?_)
    refine B585_302 (xe1 := i32 (nM A)) (row_ar (i := 1) z1.2.2.2.1 (by omega) rfl) (fun _ => B585_319 (B585_320 (i := 1) z1.2.2.2.1 rfl (by omega) (by show 1 < 5; omega) (B585_322 (fun g => absurd rfl g) (fun _ => ?_)))) (fun g => absurd (by decide) g)
    have z2 := JH_w (ds1 := (ds9 A bh).set 1 (.int (i32 (nM A) + i32 0))) z1
    have e : (ds9 A bh).set 1 (.int (i32 (nM A) + i32 0)) = ds9 A bh := by
      rw [i3_add, Nat.add_zero]
      rfl
    refine B585_331 (xe1 := i32 (nM A) + i32 0) (row_ar (i := 1) z2.2.2.2.1 (by omega) rfl) (fun g => absurd (by rw [i3_add, Nat.add_zero, h12]) g) (fun _ => B585_339 (B585_364 (Or.inr rfl) (K _ _ _ _ _ _ _ bh ⟨LJ_up j, by rw [e] at z2 ⊢; exact z2, by omega, ?_⟩)))
    show zz + 2 * 0 + 78 * (nB A).length ≤ zz + 2 * (n + 1) + 78 * (nB A).length
    omega
end CL
