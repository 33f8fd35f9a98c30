section CM
variable {SC : List Value} {q : Nat} {h : re_H} {Q : Nat → Value → re_H → Prop} {A A' A1 A1' : Nb} {bh n t ff zz c nm : Nat} {N N' : List Nat}
theorem x585m {x4 : Int32} (j : LJ A A' bh n t) (hn : n ≤ 79) (z : JH h A A' N N' ff zz (ds9 A bh)) (hf : ff + 10000000 < 2 ^ 62) (hc : c ≤ nM A) (K : ∀ h' A1 A1' N1 N1' ff1 zz1 bh1, EN n t ff zz (nB A).length h' A1 A1' N1 N1' ff1 zz1 bh1 → Q 1 (.int 1) h') : wp SC 585 39 (q + 8) 372 [(0, .ref 0), (1, .ref 301), (4, .int x4), (6, .int (i32 c))] [] h Q := by
  obtain ⟨r1, r2⟩ := LJ_rm j hn
  have hm12 := (NB_md z.1).1
  obtain ⟨Y', rfl, sy⟩ := sim_tu j.1
  refine B585_372 (c577 (by omega) (by omega) (fun m hm => ret1 (B585_381 (fun _ => ?_) (fun _ => B585_384 (B585_400 (fun _ => B585_443 (B585_448 (Or.inr rfl) (K _ _ _ _ _ _ _ bh ⟨LJ_up j, z, by omega, by omega⟩))) (fun g => absurd rfl g))))))
  refine L585_390 (s1 := 0 + 2 * 1) (s2 := q + 6) (by omega) ?_
  rcases noc_or A c hc hm12 with hx | ⟨hc12, ht⟩
  · refine both9 z (by omega) (cs12x hx) (cs12x (A := wY A Y') hx) (fun h1 N1 N1' z1 => ret2 (B585_400 (fun _ => B585_443 (B585_448 (Or.inr rfl) (K _ _ _ _ _ _ _ bh ⟨LJ_up j, z1, by omega, ?_⟩))) (fun g => absurd rfl g)))
    show zz + 2 * 0 + 78 * (nB A).length ≤ zz + 2 * (n + 1) + 78 * (nB A).length
    omega
  · have i1 := inv1_rem j.2.1.1.1 hc12 ht
    have i1' : inv1 (aRem (wY A Y') c) bh := inv1_rem (A := wY A Y') j.2.2.1.1.1 hc12 ht
    have w1 : WT (aRem A c) n := WT_V j.2.2.2.2 rfl (fun x hx => Or.inl (by
      show cps ((vup (nV A) c (false, [])) x).2 ≤ _
      unfold vup
      split
      next g => exact Nat.zero_le _
      next => exact Nat.le_refl _)) (fun U hU => Or.inl hU)
    have f12 : ∀ (RR : Nat → Rs) i, 12 ≤ i → fgt RR c i = RR i := fun RR i hi => if_neg (by omega)
    have jj : LJ (aS (aRem A c) (cao (nO A))) (aS (aRem (wY A Y') c) (cao (nO A))) bh (n + 1) (t + 50) := LJ_chg (A1 := aRem A c) (A1' := aRem (wY A Y') c) j ⟨rfl, rfl, rfl, rfl, rfl, rfl, rfl, fgt_P sy⟩ i1 i1' rfl rfl (fgt_K (nY A).1 c) (fgt_K Y'.1 c) (f12 (nY A).1) (f12 Y'.1) rfl rfl w1
    have hp : pc12 (vcl (vup (nV A) c (false, [])) 12) < 12 := pc_l9 hc12 (by
      rw [vcl_bit]
      unfold vup
      rw [if_pos rfl, Bool.and_false])
    refine both9 z (by omega) (cs12 r1 (by decide) hc12 ht) (cs12 (A := wY A Y') r2 (by decide) hc12 ht) (fun h1 N1 N1' z1 => ret2 (B585_400 (fun g => absurd g (lj_OUT (by omega))) (fun _ => B585_411 (fun g => absurd g (lj_neg (by omega))) (fun _ => B585_418 (fun g => absurd ?_ g) (fun _ => ?_)))))
    · rw [show (12 : Int64) = (i32 12).toInt64 by decide]
      exact (lj_lt (by omega) (by omega)).mpr hp
    · have ht1 : ((nV (aS (aRem A c) (cao (nO A)))) c).1 = false := by
        show (vup (nV A) c (false, []) c).1 = false
        unfold vup
        rw [if_pos rfl]
      refine L585_427 (s1 := 0 + 1) (s2 := q + 5) (by omega) (x585o (pc := 0) (Or.inr (Or.inr ⟨c, hc12, rfl, ht1⟩)) z1 (by omega) (fun h3 N3 z3 => ret2 (B585_436 (fun g => absurd rfl g) (fun _ => B585_443 (B585_448 (Or.inr rfl) (K _ _ _ _ _ _ _ bh ⟨jj, z3, by omega, ?_⟩))))))
      show zz + 2 * 0 + 0 + 78 * (nB A).length ≤ zz + 2 * (n + 1) + 78 * (nB A).length
      omega
theorem x585n {x4 : Int32} (j : LJ A A' bh n t) (hn : n ≤ 79) (z : JH h A A' N N' ff zz (ds9 A bh)) (hf : ff + 10000000 < 2 ^ 62) (hnm : nm < 6) (K : ∀ h' A1 A1' N1 N1' ff1 zz1 bh1, EN n t ff zz (nB A).length h' A1 A1' N1 N1' ff1 zz1 bh1 → Q 1 (.int 1) h') : wp SC 585 39 (q + 8) 449 [(0, .ref 0), (1, .ref 301), (4, .int x4), (7, .int (i32 nm))] [] h Q := by
  obtain ⟨r1, r2⟩ := LJ_rm j hn
  have hm12 := (NB_md z.1).1
  obtain ⟨Y', rfl, sy⟩ := sim_tu j.1
  refine B585_449 (c577 (by omega) (by omega) (fun ot hot => ret1 (L585_465 (s1 := 0 + 2 * 1) (s2 := q + 6) (by omega) ?_)))
  by_cases h1 : nm = ot ∨ vmn (nV A) ot 12 = true
  · refine both9 z (by omega) (cs13n r1 (by decide) (by omega) (by omega) h1) (cs13n (A := wY A Y') r2 (by decide) (by omega) (by omega) h1) (fun h1 N1 N1' z1 => ret2 (B585_468 (fun _ => B585_510 (B585_515 (Or.inr rfl) (K _ _ _ _ _ _ _ bh ⟨LJ_up j, z1, by omega, ?_⟩))) (fun g => absurd rfl g)))
    show zz + 2 * 0 + 78 * (nB A).length ≤ zz + 2 * (n + 1) + 78 * (nB A).length
    omega
  · by_cases h2 : dfm (nV A) nm 12 = 0
    · refine both9 z (by omega) (cs13z r1 (by decide) (by omega) (by omega) h1 h2) (cs13z (A := wY A Y') r2 (by decide) (by omega) (by omega) h1 h2) (fun h1 N1 N1' z1 => ret2 (B585_468 (fun g => absurd g (by decide)) (fun _ => B585_479 (fun g => absurd g (by decide)) (fun _ => B585_486 (fun _ => B585_510 (B585_515 (Or.inr rfl) (K _ _ _ _ _ _ _ bh ⟨LJ_up j, z1, by omega, ?_⟩))) (fun g => absurd (by decide) g)))))
      show zz + 2 * 0 + 78 * (nB A).length ≤ zz + 2 * (n + 1) + 78 * (nB A).length
      omega
    · have hv : ¬ vmn (nV A) ot 12 = true := fun y => h1 (Or.inr y)
      have i1 := inv1_ren (nm := nm) j.2.1.1.1 hot hv
      have i1' : inv1 (aRen (wY A Y') nm ot) bh := inv1_ren (A := wY A Y') (nm := nm) j.2.2.1.1.1 hot hv
      have w1 : WT (aRen A nm ot) n := WT_V j.2.2.2.2 rfl (fun x hx => Or.inl (by
        show cps ((vxg nm ot (nV A) 12) x).2 ≤ _
        unfold vxg
        rw [if_pos hx]
        exact cps_xg nm ot _)) (fun U hU => Or.inl hU)
      have jj : LJ (aS (aRen A nm ot) (cao (nO A))) (aS (aRen (wY A Y') nm ot) (cao (nO A))) bh (n + 1) (t + 50) := LJ_chg (A1 := aRen A nm ot) (A1' := aRen (wY A Y') nm ot) j ⟨rfl, rfl, rfl, rfl, rfl, rfl, rfl, sy⟩ i1 i1' rfl rfl (fun _ _ _ _ y => y) (fun _ _ _ _ y => y) (fun _ _ => rfl) (fun _ _ => rfl) rfl rfl w1
      have hvp := WT_v j.2.2.2.2
      have hvx : vxn nm (nV A) 12 < 2147483648 := by
        obtain ⟨-, hvn, -⟩ := j.2.1.1.1.1
        have := vxn_le nm (V := nV A) 12 (fun i hi => (hvn i hi).2.2)
        omega
      have q1 := okq_rm (chg_ok (A1 := aRen A nm ot) (okp_q j.2.1) i1 rfl rfl (fun _ _ _ _ y => y) (fun _ _ => rfl) rfl) hn (W := Wo) (by decide)
      refine both9 z (by omega) (cs13 r1 (by decide) (by omega) (by omega) h1 h2) (cs13 (A := wY A Y') r2 (by decide) (by omega) (by omega) h1 h2) (fun h3 N1 N1' z1 => ret2 (B585_468 (fun g => absurd g (lj_NOT hvx)) (fun _ => B585_479 (fun g => absurd g (lj_neg hvx)) (fun _ => B585_486 (fun _ => B585_510 (B585_515 (Or.inr rfl) (K _ _ _ _ _ _ _ bh ⟨jj, z1, by omega, ?_⟩))) (fun _ => ?_)))))
      · show zz + 2 * vps (nV A) 12 + 78 * (nB A).length ≤ zz + 2 * (n + 1) + 78 * (nB A).length
        omega
      · refine L585_493 (s1 := 0 + 1) (s2 := q + 5) (by omega) (wp_up (d := 37) (by omega) (Nat.le_refl _) (call9 z1 (by omega) (cs13n q1 (by decide) (by omega) (by omega) (Or.inl rfl)) (fun h4 N4 z4 => ret2 (B585_503 (fun g => absurd rfl g) (fun _ => B585_510 (B585_515 (Or.inr rfl) (K _ _ _ _ _ _ _ bh ⟨jj, z4, by omega, ?_⟩)))))))
        show zz + 2 * vps (nV A) 12 + 0 + 78 * (nB A).length ≤ zz + 2 * (n + 1) + 78 * (nB A).length
        omega
theorem c585 {x x4 : Int32} (j : LJ A A' bh n t) (hn : n ≤ 79) (z : JH h A A' N N' ff zz (ds9 A bh)) (hf : ff + 10000000 < 2 ^ 62) (K : ∀ h' A1 A1' N1 N1' ff1 zz1 bh1, EN n t ff zz (nB A).length h' A1 A1' N1 N1' ff1 zz1 bh1 → Q 1 (.int 1) h') : wp SC 585 39 (q + 8) 0 [(0, .ref 0), (1, .ref 301), (2, .ref 602), (3, .int x), (4, .int x4)] [] h Q := by
  have hm12 := (NB_md z.1).1
  refine B585_0 (c577 (by omega) (by omega) (fun m hm => ret1 (B585_6 (xe1 := i32 (nM A)) (row_ar (i := 1) z.2.2.2.1 (by omega) rfl) ?_)))
  rw [i3_add]
  refine c577 (by omega) (by omega) (fun c hc => ret1 (B585_18 (c577 (by omega) (by omega) (fun nm hnm => ret1 (B585_29 (fun _ => B585_151 (fun _ => B585_286 (fun _ => B585_365 (fun _ => x585n j hn z hf hnm K) (fun _ => x585m j hn z hf (by omega) K)) (fun _ => x585c j hn z hf K)) (fun _ => x585r j hn z hf (by omega) hnm K)) (fun _ => x585d j hn z hf (by omega) hnm K))))))
end CM
