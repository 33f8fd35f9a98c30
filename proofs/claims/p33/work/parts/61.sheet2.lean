/-! Sheet: stale by itself. -/
/-- a name that it reads is not as it was seen -/
def chg (V : Vr) (RR : Nat → Rs) (st0 c n : Nat) : Bool := (rds (V c).2).testBit n && !smv (rW (RR (st0 + c)) n) (vin V RR st0 n)
noncomputable def sti (V : Vr) (RR : Nat → Rs) (st0 : Nat) (I : Nat → Int64) (sd : Int32) (c : Nat) : Bool :=
  if wr V c = 0 then (if (RR (st0 + c)).1 = -1 ∨ (¬ (RR (st0 + c)).1 < i32 1 ∧ ¬ i32 3 < (RR (st0 + c)).1) then true else if mfr (RR (st0 + c)) (V c).2 I sd = true then bex (chg V RR st0 c) 16 else true) else !decide ((RR (st0 + c)).1 = i32 (wr V c))
section SI
variable {SC : List Value} {d q : Nat} {h : re_H} {Q : Nat → Value → re_H → Prop} {sh vb lb m ra st0 s rr ff i2 : Nat} {V : Vr} {RR : Nat → Rs} {E : Ev} {I : Nat → Int64} {sd : Int32}
theorem c514 {c : Nat} (hc : c < 12) (h0 : st0 + 12 ≤ 24) (hi : eInj E) (z : shc h sh vb lb m ra st0) (zl : lk h lb vb V) (zv : vr h vb V) (za : rall h E ra RR) (zm : mcz h m s rr ff) (u1 : re_hg h rr = some (4, [.ref i2, .int sd])) (u2 : re_hg h i2 = some (101, lst 4 (fun i => .long (I i)))) (K : Q 1 (.int (ib (sti V RR st0 I sd c))) h) : wp SC 514 (d + 33) q 0 [(0, .ref sh), (1, .int (i32 c))] [] h Q := by
  have zr := za.2 (st0 + c) (by omega)
  have z5 := rs_0 zr
  have a6 := lk_at zl (j := 6) (i := c) (by omega) (by omega) hc
  have f6 : lkF V 6 c = i32 (wr V c) := rfl
  rw [f6] at a6
  have hw := wr_le V c
  refine B514_0 z rfl (c515 z za (by omega) (ret3 ?_))
  refine B514_5 ⟨_, z, rfl⟩ ⟨_, lk_c zl, rfl⟩ a6 (fun g => ?_) (fun g => ?_)
  rotate_left
  · have w0 : ¬ wr V c = 0 := fun y => g ((i3_zero (by omega)).mpr y)
    have es : sti V RR st0 I sd c = !decide ((RR (st0 + c)).1 = i32 (wr V c)) := if_neg w0
    rw [es] at K
    refine B514_18 ⟨_, z5, rfl⟩ ⟨_, z, rfl⟩ ⟨_, lk_c zl, rfl⟩ a6 (fun g2 => B514_38 (B514_39 (Or.inl rfl) ?_)) (fun g2 => B514_34 (B514_39 (Or.inr rfl) ?_))
    · rw [decide_eq_true g2] at K; exact K
    · rw [decide_eq_false g2] at K; exact K
  have w0 : wr V c = 0 := (i3_zero (by omega)).mp g
  have es : sti V RR st0 I sd c = if (RR (st0 + c)).1 = -1 ∨ (¬ (RR (st0 + c)).1 < i32 1 ∧ ¬ i32 3 < (RR (st0 + c)).1) then true else if mfr (RR (st0 + c)) (V c).2 I sd = true then bex (chg V RR st0 c) 16 else true := if_pos w0
  rw [es] at K
  have rest : ¬ ((RR (st0 + c)).1 = -1 ∨ (¬ (RR (st0 + c)).1 < i32 1 ∧ ¬ i32 3 < (RR (st0 + c)).1)) → wp SC 514 (d + 33) q 66 [(0, .ref sh), (1, .int (i32 c)), (2, .ref (ra + 1 + 10 * (st0 + c)))] [] h Q := by
    intro hn
    rw [if_neg hn] at K
    obtain ⟨_, _, _, _, _, kn, ps, ss, es', ns, fs, om, -⟩ := id zm
    refine B514_66 ⟨_, z, rfl⟩ ⟨_, zv.1, rfl⟩ ⟨_, c, zv.2.2.1, rfl, by omega, lst_get _ hc⟩ ⟨_, z, rfl⟩ ⟨_, om.2.1, rfl⟩ z5 rfl (c321 zr (zv.2.2.2 c hc) u1 u2 (ret1 (B514_86 (fun g1 => ?_) (fun g1 => ?_))))
    rotate_left
    · have hm : ¬ mfr (RR (st0 + c)) (V c).2 I sd = true := fun y => by rw [y] at g1; cases g1
      rw [if_neg hm] at K
      exact B514_89 K
    have hm : mfr (RR (st0 + c)) (V c).2 I sd = true := by
      cases hh : mfr (RR (st0 + c)) (V c).2 I sd with
      | true => rfl
      | false => rw [hh] at g1; exact absurd rfl g1
    rw [if_pos hm] at K
    have hr := rds_lt (zv.2.2.2 c hc)
    refine B514_91 ?_
    have loop : ∀ k n : Nat, n + k = 16 → bex (chg V RR st0 c) n = false → wp SC 514 (d + 33) q 93 [(0, .ref sh), (1, .int (i32 c)), (2, .ref (ra + 1 + 10 * (st0 + c))), (3, .int (i32 n))] [] h Q := by
      intro k
      induction k with
      | zero =>
        intro n hn2 hb
        cases (show n = 16 by omega)
        rw [hb] at K
        exact B514_93 (fun _ => B514_155 K) (fun g => absurd ((i3_lt (by omega) (by omega)).mp g) (by omega))
      | succ k ih =>
        intro n hn2 hb
        have hn16 : n < 16 := by omega
        have next : chg V RR st0 c n = false → wp SC 514 (d + 33) q 149 [(0, .ref sh), (1, .int (i32 c)), (2, .ref (ra + 1 + 10 * (st0 + c))), (3, .int (i32 n))] [] h Q := by
          intro hf
          refine B514_149 ?_
          rw [i3_add]
          refine ih (n + 1) (by omega) ?_
          show (bex (chg V RR st0 c) n || chg V RR st0 c n) = false
          rw [hb, hf]
          rfl
        have a3 := lk_at zl (j := 3) (i := c) (by omega) (by omega) (by show c < 12; exact hc)
        have f3 : lkF V 3 c = i32 (rds (V c).2) := rfl
        rw [f3] at a3
        refine B514_93 (fun g => absurd ((i3_lt (by omega) (by omega)).mpr hn16) g) (fun _ => ?_)
        refine B514_99 ⟨_, z, rfl⟩ ⟨_, lk_c zl, rfl⟩ a3 (fun g => ?_) (fun g => ?_)
        · rw [i3_bit (by omega) (by omega)] at g
          have hbit : (rds (V c).2).testBit n = true := by
            cases hb2 : (rds (V c).2).testBit n with
            | true => rfl
            | false => rw [hb2] at g; exact absurd rfl g
          refine B514_118 z rfl (c516 hn16 ⟨c, hc, rds_ne hbit⟩ h0 z zl za (fun v y => ret3 ?_))
          refine B514_123 (srv_R y) z rfl (c517 hn16 h0 za y (ret1 ?_))
          refine B514_134 (srv_R y) z rfl (c518 hn16 h0 za y (ret2 ?_))
          refine B514_141 z5 rfl (c325 hi hn16 (vin_st h0 za) zr (ret1 (B514_144 (fun g2 => next ?_) (fun g2 => B514_147 ?_))))
          · unfold chg
            cases hs : smv (rW (RR (st0 + c)) n) (vin V RR st0 n) with
            | true => simp
            | false => rw [hs] at g2; exact absurd rfl g2
          · have hs : smv (rW (RR (st0 + c)) n) (vin V RR st0 n) = false := ib_0.mp g2
            have hp : bex (chg V RR st0 c) 16 = true := bex_iff.mpr ⟨n, hn16, by unfold chg; rw [hbit, hs]; rfl⟩
            rw [hp] at K
            exact K
        · rw [i3_bit (by omega) (by omega)] at g
          have hbit : (rds (V c).2).testBit n = false := by
            cases hb2 : (rds (V c).2).testBit n with
            | false => rfl
            | true => rw [hb2] at g; exact absurd (show i32 1 = 0 from g) (by decide)
          exact B514_115 (next (by unfold chg; rw [hbit]; rfl))
    exact loop 16 0 rfl rfl
  refine B514_40 ⟨_, z5, rfl⟩ (fun g1 => ?_) (fun g1 => ?_)
  · rw [if_pos (Or.inl g1)] at K
    exact B514_64 K
  refine B514_48 ⟨_, z5, rfl⟩ (fun g2 => rest (fun y => y.elim g1 (fun y2 => y2.1 g2))) (fun g2 => ?_)
  refine B514_56 ⟨_, z5, rfl⟩ (fun g3 => rest (fun y => y.elim g1 (fun y2 => y2.2 g3))) (fun g3 => ?_)
  rw [if_pos (Or.inr ⟨g2, g3⟩)] at K
  exact B514_64 K
end SI
