/-! The law's all. -/
section OB
variable {A A' : Nb} {bh : Nat}
theorem er_ok (h : inv1 A bh) {c : Nat} (hc : c < 12) : ((nY A).1 c).1 = -1 ∨ ((nY A).1 c).1 = 0 ∨ ((nY A).1 c).1 = 1 ∨ ((nY A).1 c).1 = 2 ∨ ((nY A).1 c).1 = 3 ∨ ((nY A).1 c).1 = 4 ∨ ((nY A).1 c).1 = 5 := by
  obtain ⟨-, -, -, -, -, ⟨F, G, h6⟩, -⟩ := h
  rcases (h6 c hc).1 with y | ⟨B0, T0, I0, r1, r2, r3, -⟩
  · rcases y.1 with y | y | y | y
    · exact Or.inl y
    · exact Or.inr (Or.inr (Or.inl y))
    · exact Or.inr (Or.inr (Or.inr (Or.inl y)))
    · exact Or.inr (Or.inr (Or.inr (Or.inr (Or.inl y))))
  · rcases outC_n (C := rC ((nY A).1 c)) (I := I0) (sd := rS ((nY A).1 c)) (cl := c) (B := B0) (rid := T0) (W := rW ((nY A).1 c)) with ⟨y, -⟩ | ⟨y | y, -⟩
    · exact Or.inr (Or.inl (r2.trans y))
    · exact Or.inr (Or.inr (Or.inr (Or.inr (Or.inr (Or.inl (r2.trans y))))))
    · exact Or.inr (Or.inr (Or.inr (Or.inr (Or.inr (Or.inr (r2.trans y))))))
theorem er_OUT (h : inv1 A bh) {c : Nat} (hc : c < 12) : ¬ ((nY A).1 c).1.toInt64 = OUT9 := by
  rcases er_ok h hc with y | y | y | y | y | y | y <;> rw [y] <;> decide
end OB
/-- what a cell keeps of a name, as call tells it -/
def vl8 (A : Nb) (c n : Nat) : Int64 := match lkp n (rK ((nY A).1 c)) with
  | some v => if isC v = true then NOT9 else num v
  | none => NOT9
def nmV (A : Nb) (c : Nat) (h0 : Int64) : Nat → Int64
  | 0 => h0
  | n + 1 => (nmV A c h0 n * 3 + (i32 (knd (lkp n (rK ((nY A).1 c))))).toInt64) * 1000003 + vl8 A c n
noncomputable def clH (A : Nb) (c : Nat) (h0 : Int64) : Int64 := ((((h0 * 31 + ((nY A).1 c).1.toInt64) * 31 + (ib ((stl8 A).testBit c)).toInt64) * 1009 + (i32 ((nY A).1 c).2.1).toInt64) * 65537 + (i32 (rds ((nV A) c).2)).toInt64) * 4099 + (i32 (wn (nV A) 12 c ||| 2 ^ c)).toInt64
noncomputable def clV (A : Nb) : Nat → Int64
  | 0 => 17
  | c + 1 => if ((nV A) c).1 = true then nmV A c (clH A c (clV A c)) 6 else clV A c * 31 + 7
theorem cs24v {SC : List Value} {A : Nb} {W c n : Nat} (hc : c < 12) (hn : n < 16) (ht : ((nV A) c).1 = true) : CS SC (i32 24) (i32 c) (i32 n) A W (vl8 A c n) A 0 1 := by
  unfold vl8
  cases hv : lkp n (rK ((nY A).1 c)) with
  | none => exact cs24n hc hn ht (by rw [hv]; decide)
  | some v =>
    dsimp only
    split
    next hC => exact cs24n hc hn ht (by rw [hv, knd_s, if_pos hC]; decide)
    next hC => exact cs24 hc hn ht hv hC
section AL
variable {SC : List Value} {q : Nat} {h : re_H} {Q : Nat → Value → re_H → Prop} {b ff W : Nat} {A : Nb} {N : List Nat} {bh : Nat}
theorem c578 {m : Nat} (hi : inv1 A bh) (hm : m ≤ 12) (z : NB h b A N ff W) (hf : ff + 4000000 < 2 ^ 62) (K : ∀ h' N', NB h' b A N' (ff + 3100000) W → ofr b 0 h N h' N' → Q 2 (.long (clV A m)) h') : wp SC 578 38 (q + 7 * m) 0 [(0, .ref b), (1, .int (i32 m))] [] h Q := by
  have loop : ∀ (k c : Nat), c + k = m → ∀ h1 N1, NB h1 b A N1 (ff + 252000 * c) W → ofr b 0 h N h1 N1 → wp SC 578 38 (q + 7 * k) 7 [(0, .ref b), (1, .int (i32 m)), (2, .long (clV A c)), (4, .int (i32 c))] [] h1 Q := by
    intro k
    induction k with
    | zero =>
      intro c hc h1 N1 z1 o1
      cases (show c = m by omega)
      exact B578_7 (fun _ => B578_167 (K h1 N1 (NB_up z1 (by omega)) o1)) (fun g => absurd ((i3_lt (by omega) (by omega)).mp g) (by omega))
    | succ k ih =>
      intro c hc h1 N1 z1 o1
      have hc12 : c < 12 := by omega
      have go : ∀ (x : Int64) h2 N2 ff2, x = clV A (c + 1) → ff2 ≤ ff + 252000 * (c + 1) → NB h2 b A N2 ff2 W → ofr b 0 h N h2 N2 → ∀ s9, q + 7 * k ≤ s9 → wp SC 578 38 s9 161 [(0, .ref b), (1, .int (i32 m)), (2, .long x), (4, .int (i32 c))] [] h2 Q := by
        intro x h2 N2 ff2 hx hff z2 o2 s9 hs
        subst hx
        refine B578_161 ?_
        rw [i3_add]
        exact wp_up (Nat.le_refl _) hs (ih (c + 1) (by omega) h2 N2 (NB_up z2 hff) o2)
      refine B578_7 (fun g => absurd ((i3_lt (by omega) (by omega)).mpr (by omega)) g) (fun _ => ?_)
      cases ht : ((nV A) c).1 with
      | false =>
        refine L578_13 (s1 := 0 + 1) (s2 := q + 7 * k + 6) (by omega) (cs21x (Or.inr (Or.inr ⟨c, hc12, rfl, ht⟩)) h1 b N1 _ 0 _ z1 (by omega) (fun h2 N2 z2 o2 => ret2 (B578_22 (fun g => absurd rfl g) (fun _ => B578_29 (go _ h2 N2 _ ?_ (by omega) z2 (ofr_tr o1 o2 (Nat.le_refl _)) _ (by omega))))))
        have e : clV A (c + 1) = clV A c * 31 + 7 := by
          show (if ((nV A) c).1 = true then _ else _) = _
          rw [if_neg (by rw [ht]; decide)]
        exact e.symm
      | true =>
        refine L578_13 (s1 := 0 + 1) (s2 := q + 7 * k + 6) (by omega) (cs21 hc12 ht h1 b N1 _ 0 _ z1 (by omega) (fun h2 N2 z2 o2 => ret2 (B578_22 (fun _ => ?_) (fun g => absurd g (er_OUT hi hc12)))))
        refine L578_42 z2.1 rfl (s1 := 0) (s2 := q + 7 * k + 6) (by omega) (wp_up (d := 1) (by omega) (Nat.le_refl _) (c31 (d := 0) hc12 ht z2 (ret1 ?_)))
        refine L578_53 z2.1 rfl (s1 := 0) (s2 := q + 7 * k + 6) (by omega) (wp_up (d := 35) (by omega) (Nat.le_refl _) (c32 (d := 0) hc12 ht z2 (ret1 ?_)))
        have ths : ∀ x : Int32, x = ib ((stl8 A).testBit c) → wp SC 578 38 (q + 7 * k + 6) 73 [(0, .ref b), (1, .int (i32 m)), (4, .int (i32 c))] [.int x, .long ((clV A c * 31 + ((nY A).1 c).1.toInt64) * 31)] h2 Q := by
          intro x hx
          subst hx
          refine L578_73 z2.1 rfl (s1 := 0) (s2 := q + 7 * k + 6) (by omega) (wp_up (d := 1) (by omega) (Nat.le_refl _) (c39 (d := 0) hc12 ht z2 (ret1 ?_)))
          refine L578_85 z2.1 rfl (s1 := 0) (s2 := q + 7 * k + 6) (by omega) (wp_up (d := 1) (by omega) (Nat.le_refl _) (c37 (d := 0) hc12 ht z2 (ret1 ?_)))
          refine L578_99 z2.1 rfl (s1 := 0) (s2 := q + 7 * k + 6) (by omega) (wp_up (d := 1) (by omega) (Nat.le_refl _) (c38 (d := 0) hc12 ht z2 (ret1 (B578_111 ?_))))
          have names : ∀ (k2 n : Nat), n + k2 = 6 → ∀ h3 N3, NB h3 b A N3 (ff + 252000 * c + 36000 + 36000 * n) W → ofr b 0 h N h3 N3 → wp SC 578 38 (q + 7 * k + k2) 117 [(0, .ref b), (1, .int (i32 m)), (2, .long (nmV A c (clH A c (clV A c)) n)), (4, .int (i32 c)), (5, .int (i32 n))] [] h3 Q := by
            intro k2
            induction k2 with
            | zero =>
              intro n hn h3 N3 z3 o3
              cases (show n = 6 by omega)
              refine B578_117 (fun _ => go _ h3 N3 _ ?_ (by omega) z3 o3 _ (by omega)) (fun g => absurd ((i3_lt (by omega) (by omega)).mp g) (by omega))
              have e : clV A (c + 1) = nmV A c (clH A c (clV A c)) 6 := by
                show (if ((nV A) c).1 = true then _ else _) = _
                rw [if_pos ht]
              exact e.symm
            | succ k2 ih2 =>
              intro n hn h3 N3 z3 o3
              refine B578_117 (fun g => absurd ((i3_lt (by omega) (by omega)).mpr (by omega)) g) (fun _ => ?_)
              refine L578_124 z3.1 rfl (s1 := 0) (s2 := q + 7 * k + k2 + 1) (by omega) (wp_up (d := 2) (by omega) (Nat.le_refl _) (c33 (d := 0) hc12 (by omega) ht z3 (ret1 ?_)))
              refine L578_137 (s1 := 0 + 1) (s2 := q + 7 * k + k2) (by omega) (cs24v hc12 (by omega) ht h3 b N3 _ 0 _ z3 (by omega) (fun h4 N4 z4 o4 => ret2 (B578_153 ?_)))
              rw [i3_add]
              refine ih2 (n + 1) (by omega) h4 N4 (NB_up z4 (by omega)) (ofr_tr o3 o4 (Nat.le_refl _))
          exact names 6 0 rfl h2 N2 (NB_up z2 (by omega)) (ofr_tr o1 o2 (Nat.le_refl _))
        refine B578_65 (fun g => B578_72 (ths _ ?_)) (fun g => B578_68 (ths _ ?_))
        · rw [ib_0] at g; rw [g]; rfl
        · cases hb : (stl8 A).testBit c with
          | true => rfl
          | false => rw [hb] at g; exact absurd rfl g
  exact B578_0 (loop m 0 (Nat.zero_add _) h N (NB_up z (by omega)) ofr_rf)
end AL
/-- alike, both tell the same -/
theorem sim_vl {A A' : Nb} (s : sim A A') {c : Nat} (hc : c < 12) (n : Nat) : vl8 A c n = vl8 A' c n ∧ knd (lkp n (rK ((nY A).1 c))) = knd (lkp n (rK ((nY A').1 c))) := by
  obtain ⟨r1, r2, r3⟩ := sim_er s hc
  obtain ⟨k1, k2⟩ := r3 n
  refine ⟨?_, k1⟩
  unfold vl8
  cases hv : lkp n (rK ((nY A).1 c)) with
  | none =>
    cases hv' : lkp n (rK ((nY A').1 c)) with
    | none => rfl
    | some v' =>
      rw [hv, hv', knd_s] at k1
      have k1 : 0 = if isC v' = true then 2 else 1 := k1
      split at k1 <;> cases k1
  | some v =>
    obtain ⟨v', y1, y2, y3⟩ := k2 v hv
    rw [y1]
    dsimp only
    rw [y2, y3]
theorem sim_all {A A' : Nb} (s : sim A A') : ∀ m, m ≤ 12 → clV A m = clV A' m
  | 0, _ => rfl
  | c + 1, h => by
    have ih := sim_all s c (by omega)
    obtain ⟨r1, r2, -⟩ := sim_er s (show c < 12 by omega)
    have hst := sim_st s
    have e1 : nV A = nV A' := s.2.1
    have en : ∀ h0 n, nmV A c h0 n = nmV A' c h0 n := fun h0 n => by
      induction n with
      | zero => rfl
      | succ n ihn =>
        obtain ⟨v1, v2⟩ := sim_vl s (show c < 12 by omega) n
        show (nmV A c h0 n * 3 + _) * 1000003 + vl8 A c n = (nmV A' c h0 n * 3 + _) * 1000003 + vl8 A' c n
        rw [ihn, v1, v2]
    show (if ((nV A) c).1 = true then nmV A c (clH A c (clV A c)) 6 else clV A c * 31 + 7) = (if ((nV A') c).1 = true then nmV A' c (clH A' c (clV A' c)) 6 else clV A' c * 31 + 7)
    rw [en, ih]
    unfold clH
    rw [← e1, r1, r2, hst]
