/-! Sheet: the stale cells. -/
noncomputable def stA (V : Vr) (RR : Nat → Rs) (st0 : Nat) (I : Nat → Int64) (sd : Int32) : Nat → Nat
  | 0 => 0
  | n + 1 => if (vcl V 12).testBit n = true ∧ sti V RR st0 I sd n = true then stA V RR st0 I sd n ||| 2 ^ n else stA V RR st0 I sd n
def stB (V : Vr) (m : Nat) : Nat → Nat
  | 0 => m
  | n + 1 => if wr V n = 0 ∧ ¬ dim V n 16 &&& stB V m n = 0 then stB V m n ||| 2 ^ n else stB V m n
def stC (V : Vr) (m : Nat) : Nat → Nat
  | 0 => m
  | r + 1 => stB V (stC V m r) 12
section SL
variable {SC : List Value} {d q : Nat} {h : re_H} {Q : Nat → Value → re_H → Prop} {sh st0 b : Nat} {V : Vr} {RR : Nat → Rs} {E : Ev} {I : Nat → Int64} {sd : Int32} {N F : List Nat} {ho la ff : Nat}
theorem c522 (hvc : vcl V 12 < 2 ^ 12) (ys : bsh b sh st0) (z : bk h b E V I sd RR N F ho la ff) (K : Q 1 (.int (i32 (stC V (stA V RR st0 I sd 12) 12))) h) : wp SC 522 (d + 34) q 0 [(0, .ref sh)] [] h Q := by
  obtain ⟨zs, h0⟩ := bsh_c ys z
  have zl := z.1.2.1
  have zv := z.1.1
  have spread : ∀ (k r : Nat), r + k = 12 → wp SC 522 (d + 34) q 49 [(0, .ref sh), (2, .int (i32 (stC V (stA V RR st0 I sd 12) r))), (3, .int (i32 r))] [] h Q := by
    intro k
    induction k with
    | zero =>
      intro r hr
      cases (show r = 12 by omega)
      exact B522_49 (fun _ => B522_112 K) (fun g => absurd ((i3_lt (by omega) (by omega)).mp g) (by omega))
    | succ k ih =>
      intro r hr
      refine B522_49 (fun g => absurd ((i3_lt (by omega) (by omega)).mpr (by omega)) g) (fun _ => B522_55 ?_)
      have inner : ∀ (k2 n : Nat), n + k2 = 12 → wp SC 522 (d + 34) q 58 [(0, .ref sh), (2, .int (i32 (stB V (stC V (stA V RR st0 I sd 12) r) n))), (3, .int (i32 r)), (4, .int (i32 n))] [] h Q := by
        intro k2
        induction k2 with
        | zero =>
          intro n hn
          cases (show n = 12 by omega)
          refine B522_58 (fun _ => B522_106 ?_) (fun g => absurd ((i3_lt (by omega) (by omega)).mp g) (by omega))
          rw [i3_add]
          exact ih (r + 1) (by omega)
        | succ k2 ih2 =>
          intro n hn
          have next : ∀ x : Nat, x = stB V (stC V (stA V RR st0 I sd 12) r) (n + 1) → wp SC 522 (d + 34) q 100 [(0, .ref sh), (2, .int (i32 x)), (3, .int (i32 r)), (4, .int (i32 n))] [] h Q := by
            intro x hx
            refine B522_100 ?_
            rw [i3_add, hx]
            exact ih2 (n + 1) (by omega)
          have es : stB V (stC V (stA V RR st0 I sd 12) r) (n + 1) = if wr V n = 0 ∧ ¬ dim V n 16 &&& stB V (stC V (stA V RR st0 I sd 12) r) n = 0 then stB V (stC V (stA V RR st0 I sd 12) r) n ||| 2 ^ n else stB V (stC V (stA V RR st0 I sd 12) r) n := rfl
          have a6 := lk_at zl (j := 6) (i := n) (by omega) (by omega) (by show n < 12; omega)
          have f6 : lkF V 6 n = i32 (wr V n) := rfl
          rw [f6] at a6
          have a4 := lk_at zl (j := 4) (i := n) (by omega) (by omega) (by show n < 12; omega)
          have f4 : lkF V 4 n = i32 (dim V n 16) := rfl
          rw [f4] at a4
          have hw := wr_le V n
          have hd := dim_lt V n 16
          have hda : dim V n 16 &&& stB V (stC V (stA V RR st0 I sd 12) r) n < 2147483648 := Nat.lt_of_le_of_lt Nat.and_le_left (by omega)
          refine B522_58 (fun g => absurd ((i3_lt (by omega) (by omega)).mpr (by omega)) g) (fun _ => ?_)
          refine B522_65 ⟨_, zs, rfl⟩ ⟨_, lk_c zl, rfl⟩ a6 (fun g => next _ ?_) (fun g => ?_)
          · rw [es, if_neg (fun y => g ((i3_zero (by omega)).mpr y.1))]
          refine B522_78 ⟨_, zs, rfl⟩ ⟨_, lk_c zl, rfl⟩ a4 (fun g2 => next _ ?_) (fun g2 => B522_93 ?_)
          · rw [i3_and] at g2
            rw [es, if_neg (fun y => y.2 ((i3_zero hda).mp g2))]
          · rw [i3_and] at g2
            rw [i3_shl (by omega), i3_or]
            refine next _ ?_
            rw [es, if_pos ⟨(i3_zero (by omega)).mp g, fun y => g2 ((i3_zero hda).mpr y)⟩]
      exact inner 12 0 rfl
  have first : ∀ (k n : Nat), n + k = 12 → wp SC 522 (d + 34) q 12 [(0, .ref sh), (1, .int (i32 (vcl V 12))), (2, .int (i32 (stA V RR st0 I sd n))), (3, .int (i32 n))] [] h Q := by
    intro k
    induction k with
    | zero =>
      intro n hn
      cases (show n = 12 by omega)
      exact B522_12 (fun _ => B522_47 (spread 12 0 rfl)) (fun g => absurd ((i3_lt (by omega) (by omega)).mp g) (by omega))
    | succ k ih =>
      intro n hn
      have next : ∀ x : Nat, x = stA V RR st0 I sd (n + 1) → wp SC 522 (d + 34) q 41 [(0, .ref sh), (1, .int (i32 (vcl V 12))), (2, .int (i32 x)), (3, .int (i32 n))] [] h Q := by
        intro x hx
        refine B522_41 ?_
        rw [i3_add, hx]
        exact ih (n + 1) (by omega)
      have es : stA V RR st0 I sd (n + 1) = if (vcl V 12).testBit n = true ∧ sti V RR st0 I sd n = true then stA V RR st0 I sd n ||| 2 ^ n else stA V RR st0 I sd n := rfl
      refine B522_12 (fun g => absurd ((i3_lt (by omega) (by omega)).mpr (by omega)) g) (fun _ => ?_)
      refine B522_18 (fun g => ?_) (fun g => ?_)
      · rw [i3_bit (by omega) (by omega)] at g
        refine next _ ?_
        rw [es, if_neg (fun y => g (by rw [y.1]; rfl))]
      · rw [i3_bit (by omega) (by omega)] at g
        have hbit : (vcl V 12).testBit n = true := by
          cases hb2 : (vcl V 12).testBit n with
          | true => rfl
          | false => rw [hb2] at g; exact absurd (show i32 0 = i32 1 from g) (by decide)
        refine B522_27 zs rfl (c514 (by omega) h0 (fno_sg z.2.2.2.1) zs zl zv z.2.1 z.2.2.2.2.1 z.1.2.2.1 z.1.2.2.2.1 (ret1 (B522_32 (fun g2 => next _ ?_) (fun g2 => B522_35 ?_))))
        · rw [es, if_neg (fun y => by rw [y.2] at g2; cases g2)]
        · have hs : sti V RR st0 I sd n = true := by
            cases hh : sti V RR st0 I sd n with
            | true => rfl
            | false => rw [hh] at g2; exact absurd rfl g2
          rw [i3_shl (by omega), i3_or]
          refine next _ ?_
          rw [es, if_pos ⟨hbit, hs⟩]
  exact B522_0 ⟨_, zs, rfl⟩ zv.1 rfl (c65 zv (ret1 (B522_7 (first 12 0 rfl))))
end SL
