/-! The law's isPlain and sound. -/
theorem knd_e (o : Option Tr) : (i32 (knd o) = i32 1 ↔ knd o = 1) ∧ (i32 (knd o) = 0 ↔ knd o = 0) := by
  have := knd_le o
  exact ⟨i3_eq (by omega) (by omega), i3_eq (b := 0) (by omega) (by omega)⟩
def rmA (A : Nb) (W : Nat) : Prop := ∀ B : Nb, (∀ i, i < 12 → (nY B).1 i = (nY A).1 i) → rmL (fga (nY B).1 12 12) W
theorem rmA_s {A A' : Nb} {W : Nat} (h : rmA A W) (s : sA A A') : rmA A' W := fun B hB => h B (fun i hi => (hB i hi).trans (s.2.2.2.2.2.2.2.1 i hi))
def fre9 (A : Nb) (bh c : Nat) (x : Int32) : Prop := x = 0 → (stl8 A).testBit c = false ∧ (bh = 0 ∨ ∀ c', c' < 12 → (wn (nV A) 12 c ||| 2 ^ c).testBit c' = true → (stl8 A).testBit c' = false → ∀ n v, (n, v) ∈ rK ((nY A).1 c') → isN v = true)
theorem fre9_s {A A' : Nb} {bh c : Nat} {x : Int32} (h : fre9 A bh c x) (s : sA A A') : fre9 A' bh c x := fun e => by
  obtain ⟨h1, h2⟩ := h e
  rw [sA_st s, s.2.1]
  exact ⟨h1, h2.imp id (fun g c' hc' hb hs n v hm => g c' hc' hb hs n v (by rw [← s.2.2.2.2.2.2.2.1 c' hc']; exact hm))⟩
def GO (b bh W k t : Nat) (h : re_H) (N : List Nat) (A : Nb) (ff : Nat) (h' : re_H) (N' : List Nat) (A' : Nb) (ff' : Nat) : Prop :=
  ff' ≤ ff + 36000 * k ∧ NB h' b A' N' ff' W ∧ ofr b 0 h N h' N' ∧ sA A A' ∧ inv A' bh ∧ (nY A').2.2 ≤ (nY A).2.2 + 12 * t ∧ (ano A 12 → ano A' 12)
section GO
variable {b bh W k t k' t' : Nat} {h h' h2 : re_H} {N N' N2 : List Nat} {A A' A2 : Nb} {ff ff' ff2 : Nat}
theorem GO_rf (z : NB h b A N ff W) (hi : inv A bh) : GO b bh W 0 0 h N A ff h N A ff := ⟨Nat.le_refl _, z, ofr_rf, sA_rf A, hi, Nat.le_refl _, fun y => y⟩
theorem GO_tr (g : GO b bh W k t h N A ff h' N' A' ff') (g' : GO b bh W k' t' h' N' A' ff' h2 N2 A2 ff2) : GO b bh W (k + k') (t + t') h N A ff h2 N2 A2 ff2 := by
  obtain ⟨g1, g2, g3, g4, g5, g6, g7⟩ := g
  obtain ⟨k1, k2, k3, k4, k5, k6, k7⟩ := g'
  exact ⟨by omega, k2, ofr_tr g3 k3 (Nat.le_refl _), sA_tr g4 k4, k5, by omega, fun y => k7 (g7 y)⟩
theorem GO_up (g : GO b bh W k t h N A ff h' N' A' ff') (hk : k ≤ k') (ht : t ≤ t') : GO b bh W k' t' h N A ff h' N' A' ff' := by
  obtain ⟨g1, g2, g3, g4, g5, g6, g7⟩ := g
  exact ⟨by omega, g2, g3, g4, g5, by omega, g7⟩
theorem GO_c (z : NB h' b A N' (ff + 36000) W) (o : ofr b 0 h N h' N') (hi : inv A bh) : GO b bh W 1 0 h N A ff h' N' A (ff + 36000) := ⟨by omega, z, o, sA_rf A, hi, Nat.le_refl _, fun y => y⟩
theorem GO_A (z : NB h' b (aA A) N' (ff + 36000) W) (o : ofr b 0 h N h' N') (hi : inv A bh) : GO b bh W 1 1 h N A ff h' N' (aA A) (ff + 36000) := by
  obtain ⟨y1, y2, y3, y4, y5⟩ := inv_A hi
  exact ⟨by omega, z, o, sA_A A, y1, y5, fun _ => y4⟩
end GO
theorem va_1 {A : Nb} {c n : Nat} {v : Tr} (h : lkp n (rK ((nY (aA A)).1 (12 + c))) = some v) (hC : ¬ isC v = true) : vaN A c n = num v := by
  unfold vaN
  rw [h]
  exact if_neg hC
theorem va_2 {A : Nb} {c n : Nat} (h : ¬ knd (lkp n (rK ((nY (aA A)).1 (12 + c)))) = 1) : vaN A c n = -1 := by
  unfold vaN
  cases hv : lkp n (rK ((nY (aA A)).1 (12 + c))) with
  | none => rfl
  | some v =>
    rw [hv, knd_s] at h
    dsimp only
    split
    next => rfl
    next g => rw [if_neg g] at h; exact absurd rfl h
section PL
variable {SC : List Value} {q : Nat} {h : re_H} {Q : Nat → Value → re_H → Prop} {b ff W : Nat} {A : Nb} {N : List Nat} {bh : Nat}
theorem c583 {c : Nat} (hi : inv1 A bh) (hc : c < 12) (ht : ((nV A) c).1 = true) (z : NB h b A N ff W) (K : ∀ x : Int32, (x = 0 ∨ x = 1) → (x = 1 → ∀ c', c' < 12 → (wn (nV A) 12 c ||| 2 ^ c).testBit c' = true → ∀ n, n < 6 → ¬ knd (lkp n (rK ((nY A).1 c'))) = 2) → Q 1 (.int x) h) : wp SC 583 38 q 0 [(0, .ref b), (1, .int (i32 (nM A))), (2, .int (i32 c))] [] h Q := by
  have hV : vnt (nV A) := hi.1.1
  have hm : nM A ≤ 12 := (NB_md z).1
  refine L583_0 z.1 rfl (s1 := 0) (s2 := q) (by omega) (wp_up (d := 1) (by omega) (Nat.le_refl _) (c38 (d := 0) hc ht z (ret1 (B583_5 ?_))))
  have hwl : wn (nV A) 12 c ||| 2 ^ c < 2 ^ 12 := Nat.or_lt_two_pow (wn_lt (nV A) 12 c) (Nat.pow_lt_pow_right (by decide) hc)
  obtain ⟨S, hS⟩ : ∃ S, S = wn (nV A) 12 c ||| 2 ^ c := ⟨_, rfl⟩
  rw [← hS] at hwl ⊢
  have hSl : S < 2147483648 := by omega
  have loop : ∀ (j k : Nat) (x4 : Int32), k + j = 6 * nM A → (x4 = 0 ∨ x4 = 1) → (x4 = 1 → ∀ c' n, 6 * c' + n < k → n < 6 → S.testBit c' = true → ¬ knd (lkp n (rK ((nY A).1 c'))) = 2) → wp SC 583 38 q 12 [(0, .ref b), (1, .int (i32 (nM A))), (3, .int (i32 S)), (4, .int x4), (5, .int (i32 k))] [] h Q := by
    intro j
    induction j with
    | zero =>
      intro k x4 hk hx hp
      refine B583_12 (fun _ => B583_69 hx (K x4 hx (fun e c' hc' hb n hn => hp e c' n ?_ hn (by rw [hS]; exact hb)))) (fun g => ?_)
      · have := cell_lt hi (sl_th hV hc ht hb).2
        omega
      · rw [i3_mul] at g
        exact absurd ((i3_lt (by omega) (by omega)).mp g) (by omega)
    | succ j ih =>
      intro k x4 hk hx hp
      refine B583_12 (fun g => ?_) (fun _ => ?_)
      · rw [i3_mul] at g
        exact absurd ((i3_lt (by omega) (by omega)).mpr (by omega)) g
      · refine B583_21 (fun g => B583_69 hx (K x4 hx (fun e => by rw [g] at e; exact absurd e (by decide)))) (fun g => ?_)
        have e1 : x4 = 1 := hx.resolve_left g
        have hd : k / 6 < 12 := by omega
        have nxt : ∀ x : Int32, (x = 0 ∨ x = 1) → (x = 1 → S.testBit (k / 6) = true → ¬ knd (lkp (k % 6) (rK ((nY A).1 (k / 6)))) = 2) → wp SC 583 38 q 61 [(0, .ref b), (1, .int (i32 (nM A))), (3, .int (i32 S)), (5, .int (i32 k))] [.int x] h Q := fun x hx2 hp2 => B583_61 (by
          rw [i3_add]
          exact ih (k + 1) x (by omega) hx2 (fun e c' n hlt hn hb => by
            rcases Nat.lt_or_ge (6 * c' + n) k with g2 | g2
            · exact hp e1 c' n g2 hn hb
            · rw [show c' = k / 6 by omega] at hb ⊢
              rw [show n = k % 6 by omega]
              exact hp2 e hb))
        refine B583_26 (fun g2 => B583_56 (nxt _ (Or.inr rfl) (fun _ hb => ?_))) (fun g2 => ?_)
        · rw [i3_div (by omega) (by omega), i3_bit hSl (by omega), if_pos hb] at g2
          exact absurd g2 (by decide)
        · have hb : S.testBit (k / 6) = true := by
            cases hb : S.testBit (k / 6) with
            | true => rfl
            | false =>
              rw [i3_div (by omega) (by omega), i3_bit hSl (by omega), if_neg (by rw [hb]; decide)] at g2
              exact absurd rfl g2
          have t2 := sl_th hV hc ht (by rw [hS] at hb; exact hb)
          refine L583_38 z.1 rfl (s1 := 0) (s2 := q) (by omega) ?_
          rw [i3_mod (by omega) (by omega), i3_div (by omega) (by omega)]
          refine wp_up (d := 2) (by omega) (Nat.le_refl _) (c33 (d := 0) t2.1 (by omega) t2.2 z (ret1 (B583_52 (fun g3 => B583_60 (nxt _ (Or.inl rfl) (fun e => absurd e (by decide)))) (fun g3 => B583_56 (nxt _ (Or.inr rfl) (fun _ _ y => ?_))))))
          rw [y] at g3
          exact absurd g3 (by decide)
  exact loop (6 * nM A) 0 (i32 1) (by omega) (Or.inr rfl) (fun _ c' n y => absurd y (Nat.not_lt_zero _))
end PL
