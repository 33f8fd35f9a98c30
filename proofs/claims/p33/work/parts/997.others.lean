/-! The law's others. -/
noncomputable def sm9 (x : Int32) : Nat := Classical.choose (ush1 x)
theorem c577d {SC : List Value} {d q : Nat} {h : re_H} {Q : Nat → Value → re_H → Prop} {x : Int32} {k : Nat} (hk : 0 < k) (hk2 : k < 2147483648) (K : Q 1 (.int (i32 (sm9 x % k))) h) : wp SC 577 d q 0 [(0, .int x), (1, .int (i32 k))] [] h Q := by
  obtain ⟨h1, h2⟩ := Classical.choose_spec (ush1 x)
  refine B577_0 (fun y => by have := (i3_zero hk2).mp y; omega) ?_
  rw [h2, i3_mod h1 hk2]
  exact K
theorem in_4 {v : Nat} (hv : v < 4) : (i32 v).toInt64 = Int64.ofNat v ∧ (Int64.ofNat v).toInt32 = i32 v ∧ ¬ Int64.ofNat v < 0 := by
  rcases (show v = 0 ∨ v = 1 ∨ v = 2 ∨ v = 3 by omega) with rfl | rfl | rfl | rfl <;> decide
def LQ (A A' : Nb) (bh n t : Nat) : Prop := sim A A' ∧ okq A bh n t 12 ∧ okq A' bh n t 0 ∧ bh ≤ 1 ∧ WT A n
section OT
variable {A A' A1 A1' : Nb} {bh n t ff zz c nm : Nat}
theorem LQ_J (j : LQ A A' bh n t) {t' : Nat} (ht : t ≤ t') : LJ A A' bh (n + 1) t' := by
  obtain ⟨j1, j2, j3, j4, j5⟩ := j
  obtain ⟨a1, a2, a3, a4, a5⟩ := okq_p j2
  obtain ⟨b1, b2, b3, b4, b5⟩ := okq_p j3
  exact ⟨j1, ⟨a1, a2, a3, by omega, a5⟩, ⟨b1, b2, b3, by omega, b5⟩, j4, WT_up j5 (by omega)⟩
theorem LQ_rm (j : LQ A A' bh n t) (hn : n ≤ 79) : rmL (nY A).1 Wo ∧ rmL (nY A').1 Wt := ⟨okq_rm j.2.1 hn (by decide), okq_rm j.2.2.1 hn (by decide)⟩
theorem LJ_Q (j : LJ A A' bh n t) : LQ A A' bh n t := ⟨j.1, okp_q j.2.1, okp_q j.2.2.1, j.2.2.2⟩
theorem LQ_inp {m v : Nat} (j : LQ A A' bh n t) (hv : v < 4) : LQ (aS (aInp A m (Int64.ofNat v)) (cao (nO A))) (aS (aInp A' m (Int64.ofNat v)) (cao (nO A'))) bh n (t + 12) := by
  obtain ⟨j1, j2, j3, j4, j5⟩ := j
  have i1 := inv1_inp (n := m) j2.1.1 hv
  have i1' := inv1_inp (n := m) j3.1.1 hv
  have a := chg_ok (A1 := aInp A m (Int64.ofNat v)) j2 i1 rfl rfl (fun _ _ _ _ y => y) (fun _ _ => rfl) rfl
  have b := chg_ok (A1 := aInp A' m (Int64.ofNat v)) j3 i1' rfl rfl (fun _ _ _ _ y => y) (fun _ _ => rfl) rfl
  obtain ⟨s1, s2, s3, s4, s5, s6, s7, s8⟩ := j1
  have s : sim (aInp A m (Int64.ofNat v)) (aInp A' m (Int64.ofNat v)) := ⟨s1, s2, s3, by
    show (fun x => if x = m then Int64.ofNat v else nIp A x) = (fun x => if x = m then Int64.ofNat v else nIp A' x)
    rw [s4], s5, s6, s7, s8⟩
  refine ⟨?_, a, b, j4, j5⟩
  rw [← s6]
  exact (sim_aS i1 s).1
theorem dff_bit (V U : Vr) (c : Nat) : ∀ k, (dff V U k).testBit c = (decide (c < k) && !smC V U c)
  | 0 => by
    show Nat.testBit 0 c = _
    rw [Nat.zero_testBit]
    simp
  | k + 1 => by
    have ih := dff_bit V U c k
    show (if smC V U k = true then dff V U k else dff V U k ||| 2 ^ k).testBit c = _
    by_cases hk : k = c
    · subst hk
      by_cases hs : smC V U k = true
      · rw [if_pos hs, ih, hs]; simp
      · rw [if_neg hs, Nat.testBit_or, Nat.testBit_two_pow, Bool.eq_false_iff.mpr hs]; simp
    · have e : decide (c < k + 1) = decide (c < k) := by
        by_cases g : c < k
        · rw [decide_eq_true g, decide_eq_true (show c < k + 1 by omega)]
        · rw [decide_eq_false g, decide_eq_false (show ¬ c < k + 1 by omega)]
      rw [e, ← ih]
      split
      · rfl
      · rw [Nat.testBit_or, Nat.testBit_two_pow, decide_eq_false hk, Bool.or_false]
theorem lj_nat {m : Nat} (hm : m < 2147483648) : (i32 m).toInt64 = Int64.ofNat m := by
  rw [← Int64.toInt_inj, lj_t hm, Int64.toInt_ofNat_of_lt (by omega)]
theorem lj_shr {m k : Nat} (hm : m < 4096) (hk : k < 12) : Int64.ofNat m >>> Int64.ofNat k = Int64.ofNat (m >>> k) := by
  apply Int64.toInt_inj.mp
  have h1 : m >>> k < 4096 := Nat.lt_of_le_of_lt (Nat.shiftRight_le m k) hm
  have h2 : ∀ k : Nat, k < 12 → ((Int64.ofNat k).toBitVec.smod 64).toNat = k := by decide
  rw [Int64.toInt_ofNat_of_lt (by omega)]
  show (Int64.ofNat m >>> Int64.ofNat k).toBitVec.toInt = _
  rw [Int64.toBitVec_shiftRight, BitVec.sshiftRight_eq', h2 k hk, BitVec.toInt_sshiftRight]
  show (Int64.ofNat m).toInt >>> k = _
  rw [Int64.toInt_ofNat_of_lt (by omega)]
  rfl
theorem lj_and (a b : Nat) : Int64.ofNat a &&& Int64.ofNat b = Int64.ofNat (a &&& b) := by
  apply Int64.toBitVec_inj.mp
  rw [Int64.toBitVec_and]
  show BitVec.ofNat 64 a &&& BitVec.ofNat 64 b = BitVec.ofNat 64 (a &&& b)
  rw [BitVec.ofNat_and]
theorem lj_bit {m k : Nat} (hm : m < 4096) (hk : k < 12) : (i32 m).toInt64 >>> ((i32 k).toInt64 &&& 63) &&& 1 = if m.testBit k then 1 else 0 := by
  rw [lj_nat (by omega), lj_nat (by omega)]
  have h1 : Int64.ofNat k &&& 63 = Int64.ofNat k := by
    have : ∀ k : Fin 12, Int64.ofNat k.val &&& 63 = Int64.ofNat k.val := by decide
    exact this ⟨k, hk⟩
  rw [h1, lj_shr hm hk, show (1 : Int64) = Int64.ofNat 1 from rfl, lj_and, i3_bit1]
  have : (m >>> k).testBit 0 = m.testBit k := by rw [Nat.testBit_shiftRight]; rfl
  rw [this]
  split <;> rfl
end OT
section O2
variable {SC : List Value} {q : Nat} {h : re_H} {Q : Nat → Value → re_H → Prop} {A A' A1 A1' : Nb} {bh n t ff zz c nm : Nat} {N N' : List Nat}
theorem x586i {x4 : Int32} (j : LJ A A' bh n t) (hn : n ≤ 79) (z : JH h A A' N N' ff zz (ds9 A bh)) (hf : ff + 10000000 < 2 ^ 62) (K : ∀ h' A1 A1' N1 N1' ff1 zz1 bh1, EN n t ff zz (nB A).length h' A1 A1' N1 N1' ff1 zz1 bh1 → Q 1 (.int 1) h') : wp SC 586 39 (q + 8) 26 [(0, .ref 0), (1, .ref 301), (4, .int x4)] [] h Q := by
  have j0 := LJ_Q j
  obtain ⟨m, hm⟩ : ∃ m, m = sm9 x4 % 4 := ⟨_, rfl⟩
  obtain ⟨v, hv⟩ : ∃ v, v = sm9 (x4 >>> ((i32 3) &&& 31)) % 4 := ⟨_, rfl⟩
  have hm4 : m < 4 := by rw [hm]; exact Nat.mod_lt _ (by decide)
  have hv4 : v < 4 := by rw [hv]; exact Nat.mod_lt _ (by decide)
  obtain ⟨w, hw4, hw⟩ := j.2.1.1.1.2.2.2.1 m hm4
  obtain ⟨v1, v2, v3⟩ := in_4 hv4
  obtain ⟨w1, w2, w3⟩ := in_4 hw4
  refine B586_26 (c577d (by omega) (by omega) (ret1 ?_))
  rw [← hm]
  refine B586_32 (c577d (by omega) (by omega) (ret1 ?_))
  rw [← hv]
  have step : ∀ {B B' : Nb} {t1 : Nat} {g : Nat}, LQ B B' bh n t1 → g < 4 → ∀ o : Int64, nIp B m = o → CS SC (i32 14) (i32 m) (i32 g) B Wo o (aS (aInp B m (Int64.ofNat g)) (cao (nO B))) 0 1 ∧ CS SC (i32 14) (i32 m) (i32 g) B' Wt o (aS (aInp B' m (Int64.ofNat g)) (cao (nO B'))) 0 1 := fun {B B' t1 g} jq hg o ho => by
    obtain ⟨r1, r2⟩ := LQ_rm jq hn
    have e4 : nIp B = nIp B' := jq.1.2.2.2.1
    have a := cs14 (SC := SC) (A := B) (W := Wo) (n := m) (y := i32 g) r1 (by decide) hm4
    have b := cs14 (SC := SC) (A := B') (W := Wt) (n := m) (y := i32 g) r2 (by decide) hm4
    rw [← e4] at b
    rw [ho, (in_4 hg).1] at a b
    exact ⟨a, b⟩
  obtain ⟨a1, b1⟩ := step (g := v) j0 hv4 _ hw
  have j1 := LQ_inp (m := m) j0 hv4
  refine L586_48 (s1 := 0 + 2 * 1) (s2 := q + 6) (by omega) (both9 z (by omega) a1 b1 (fun h1 N1 N1' z1 => ret2 (B586_51 (fun g => absurd g w3) (fun _ => ?_))))
  have g1 : nIp (aS (aInp A m (Int64.ofNat v)) (cao (nO A))) m = (i32 v).toInt64 := by
    show (if m = m then Int64.ofNat v else nIp A m) = _
    rw [if_pos rfl, v1]
  obtain ⟨a2, b2⟩ := step (g := w) j1 hw4 _ g1
  have j2 := LQ_inp (m := m) j1 hw4
  have g2 : nIp (aS (aInp (aS (aInp A m (Int64.ofNat v)) (cao (nO A))) m (Int64.ofNat w)) (cao (nO (aS (aInp A m (Int64.ofNat v)) (cao (nO A)))))) m = Int64.ofNat w := if_pos rfl
  obtain ⟨a3, b3⟩ := step (g := v) j2 hv4 _ g2
  have j3 := LQ_inp (m := m) j2 hv4
  refine L586_60 (s1 := 0 + 2 * 1) (s2 := q + 4) (by omega) ?_
  rw [w2]
  refine both9 z1 (by omega) a2 b2 (fun h2 N2 N2' z2 => ret2 (B586_72 (c577d (by omega) (by omega) (ret1 ?_))))
  rw [← hv]
  refine B586_80 (fun g => absurd rfl g) (fun _ => B586_85 (c577d (by omega) (by omega) (ret1 ?_)))
  rw [← hv]
  refine L586_99 (s1 := 0 + 2 * 1) (s2 := q + 2) (by omega) (both9 z2 (by omega) a3 b3 (fun h3 N3 N3' z3 => ret2 (B586_102 (fun g => absurd rfl g) (fun _ => B586_108 (B586_113 (Or.inr rfl) (K _ _ _ _ _ _ _ bh ⟨LQ_J j3 (by omega), z3, by omega, ?_⟩))))))
  show zz + 2 * 0 + 2 * 0 + 2 * 0 + 78 * (nB A).length ≤ zz + 2 * (n + 1) + 78 * (nB A).length
  omega
theorem x586s {x4 : Int32} (j : LJ A A' bh n t) (hn : n ≤ 79) (z : JH h A A' N N' ff zz (ds9 A bh)) (hf : ff + 10000000 < 2 ^ 62) (K : ∀ h' A1 A1' N1 N1' ff1 zz1 bh1, EN n t ff zz (nB A).length h' A1 A1' N1 N1' ff1 zz1 bh1 → Q 1 (.int 1) h') : wp SC 586 39 (q + 8) 120 [(0, .ref 0), (1, .ref 301), (4, .int x4)] [] h Q := by
  obtain ⟨r1, r2⟩ := LJ_rm j hn
  obtain ⟨w, hw3, hw⟩ := j.2.1.1.1.2.2.2.2.1
  obtain ⟨Y', rfl, sy⟩ := sim_tu j.1
  refine B586_120 (c577 (by omega) (by omega) (fun m hm => ret1 (L586_130 (s1 := 0 + 2 * 1) (s2 := q + 6) (by omega) ?_)))
  have i1 := inv1_sed j.2.1.1.1 hm
  have i1' : inv1 (aSed (wY A Y') (i32 m)) bh := inv1_sed (A := wY A Y') j.2.2.1.1.1 hm
  have jj : LJ (aS (aSed A (i32 m)) (cao (nO A))) (aS (aSed (wY A Y') (i32 m)) (cao (nO A))) bh (n + 1) (t + 50) := LJ_chg (A1 := aSed A (i32 m)) (A1' := aSed (wY A Y') (i32 m)) j ⟨rfl, rfl, rfl, rfl, rfl, rfl, rfl, sy⟩ i1 i1' rfl rfl (fun _ _ _ _ y => y) (fun _ _ _ _ y => y) (fun _ _ => rfl) (fun _ _ => rfl) rfl rfl j.2.2.2.2
  refine both9 z (by omega) (cs15 r1 (by decide)) (cs15 (A := wY A Y') r2 (by decide)) (fun h1 N1 N1' z1 => ret2 (B586_134 (fun g => absurd g ?_) (fun _ => B586_139 (B586_144 (Or.inr rfl) (K _ _ _ _ _ _ _ bh ⟨jj, z1, by omega, ?_⟩)))))
  · rw [hw]; exact lj_neg (by omega)
  · show zz + 2 * 0 + 78 * (nB A).length ≤ zz + 2 * (n + 1) + 78 * (nB A).length
    omega
theorem x586m {x4 : Int32} (j : LJ A A' bh n t) (hn : n ≤ 79) (z : JH h A A' N N' ff zz (ds9 A bh)) (hf : ff + 10000000 < 2 ^ 62) (K : ∀ h' A1 A1' N1 N1' ff1 zz1 bh1, EN n t ff zz (nB A).length h' A1 A1' N1 N1' ff1 zz1 bh1 → Q 1 (.int 1) h') : wp SC 586 39 (q + 8) 151 [(0, .ref 0), (1, .ref 301), (2, .ref 602), (4, .int x4)] [] h Q := by
  obtain ⟨r1, r2⟩ := LJ_rm j hn
  obtain ⟨Y', rfl, sy⟩ := sim_tu j.1
  obtain ⟨m, hm⟩ : ∃ m, m = sm9 x4 % 3 := ⟨_, rfl⟩
  have hm3 : m < 3 := by rw [hm]; exact Nat.mod_lt _ (by decide)
  have hb1 := j.2.2.2.1
  refine B586_151 (c577d (by omega) (by omega) (ret1 ?_))
  rw [← hm]
  have jj : LJ (aS (aMod A m) (cao m)) (aS (aMod (wY A Y') m) (cao m)) (if m = 2 then 1 else bh) (n + 1) (t + 50) := by
    obtain ⟨a1, a2, a3, a4, a5⟩ := mode_ok (o := m) j.2.1 (by omega)
    obtain ⟨b1, b2, b3, b4, b5⟩ := mode_ok (A := wY A Y') (o := m) j.2.2.1 (by omega)
    refine ⟨(sim_aS (A := aMod A m) (A' := aMod (wY A Y') m) (inv1_mod j.2.1.1.1 (by omega) rfl) ⟨rfl, rfl, rfl, rfl, rfl, rfl, rfl, sy⟩).1, ⟨a1, a2, a3, by omega, a5⟩, ⟨b1, b2, b3, Nat.le_trans b4 (by omega), b5⟩, by split <;> omega, WT_up (A := aS (aMod A m) (cao m)) (n := n) j.2.2.2.2 (by omega)⟩
  refine L586_161 (s1 := 0 + 2 * 1) (s2 := q + 6) (by omega) (both9 z (by omega) (cs16 r1 (by decide) (by omega)) (cs16 (A := wY A Y') r2 (by decide) (by omega)) (fun h1 N1 N1' z1 => ret2 ?_))
  refine B586_165 (xe1 := i32 (nO A)) (row_ar (i := 2) z1.2.2.2.1 (by omega) rfl) (fun g => absurd rfl g) (fun _ => B586_177 (B586_182 (c577d (by omega) (by omega) (ret1 ?_))))
  rw [← hm]
  have z2 := JH_w (ds1 := (ds9 A bh).set 2 (.int (i32 m))) z1
  have z3 := JH_w (ds1 := ((ds9 A bh).set 2 (.int (i32 m))).set 4 (.int (i32 (if m = 2 then 1 else bh)))) z2
  have e : ((ds9 A bh).set 2 (.int (i32 m))).set 4 (.int (i32 (if m = 2 then 1 else bh))) = ds9 (aS (aMod A m) (cao m)) (if m = 2 then 1 else bh) := rfl
  have fin : wp SC 586 39 (q + 6) 210 [(9, .int (i32 1))] [] (re_hw (re_hw h1 602 (100, (ds9 A bh).set 2 (.int (i32 m)))) 602 (100, ((ds9 A bh).set 2 (.int (i32 m))).set 4 (.int (i32 (if m = 2 then 1 else bh))))) Q := by
    refine B586_210 (Or.inr rfl) (K _ _ _ _ _ _ _ _ ⟨jj, by rw [e] at z3 ⊢; exact z3, by omega, ?_⟩)
    show zz + 2 * 0 + 78 * (nB A).length ≤ zz + 2 * (n + 1) + 78 * (nB A).length
    omega
  refine B586_192 (i := 2) z1.2.2.2.1 rfl (by omega) (by show 2 < 5; omega) (B586_193 (xe1 := i32 m) (row_ar (i := 2) z2.2.2.2.1 (by omega) rfl) (fun g => ?_) (fun g => ?_))
  · have g : ¬ m = 2 := fun y => g (by rw [y])
    rw [if_neg g] at fin
    exact B586_206 (xe1 := i32 bh) (row_ar (i := 4) z2.2.2.2.1 (by omega) rfl) (B586_209 (i := 4) z2.2.2.2.1 rfl (by omega) (by show 4 < 5; omega) fin)
  · have g : m = 2 := (i3_eq (by omega) (by omega)).mp g
    rw [if_pos g] at fin
    exact B586_202 (B586_209 (i := 4) z2.2.2.2.1 rfl (by omega) (by show 4 < 5; omega) fin)
end O2
