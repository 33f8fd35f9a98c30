/-! Calls, told by numbers. -/
def OUT9 : Int64 := -2000000001
def BAD9 : Int64 := -2000000002
def NOT9 : Int64 := -2000000003
/-- a call tells ans, and leads from A to A1; at most k new cells that are no nodes, at most s cells to spare -/
def CS (SC : List Value) (w x y : Int32) (A : Nb) (W : Nat) (ans : Int64) (A1 : Nb) (k s : Nat) : Prop := ∀ (h : re_H) (b : Nat) (N : List Nat) (ff q : Nat) (Q : Nat → Value → re_H → Prop), NB h b A N ff W → ff + 40000 < 2 ^ 62 → (∀ h' N', NB h' b A1 N' (ff + 36000) W → ofr b k h N h' N' → Q 2 (.long ans) h') → wp SC 579 37 (q + s) 0 [(0, .ref b), (1, .int w), (2, .int x), (3, .int y)] [] h Q
theorem NB_up {h : re_H} {b : Nat} {A : Nb} {N : List Nat} {ff ff' W : Nat} (z : NB h b A N ff W) (hf : ff ≤ ff') : NB h b A N ff' W := by
  obtain ⟨z1, z2, z3, z4, z5⟩ := z
  exact ⟨z1, z2, z3, nbx_up z4 hf, z5⟩
section TL
variable {Q : Nat → Value → re_H → Prop} {h : re_H}
theorem tl_2 {l : Int64} (z : Q 2 (.long l) h) : tl9 Q 2 (.long l) h := Or.inl ⟨rfl, l, rfl, z⟩
theorem tl_6 {v : Value} (z : Q 2 (.long OUT9) h) : tl9 Q (4 + 2) v h := Or.inr (Or.inl ⟨rfl, z⟩)
theorem tl_6' {v : Value} (z : Q 2 (.long OUT9) h) : tl9 Q 6 v h := Or.inr (Or.inl ⟨rfl, z⟩)
theorem tl_5 {v : Value} (z : Q 2 (.long BAD9) h) : tl9 Q (4 + 1) v h := Or.inr (Or.inr (Or.inl ⟨rfl, z⟩))
theorem tl_4 {v : Value} (z : Q 2 (.long NOT9) h) : tl9 Q (4 + 0) v h := Or.inr (Or.inr (Or.inr ⟨rfl, z⟩))
end TL
def noc (A : Nb) (x : Int32) : Prop := x < 0 ∨ ¬ x < i32 12 ∨ ∃ c, c < 12 ∧ x = i32 c ∧ ((nV A) c).1 = false
section CC
variable {SC : List Value} {A : Nb} {W : Nat} {x y : Int32}
theorem cs10x (hx : noc A x) : CS SC (i32 10) x y A W OUT9 A 0 1 := fun h b N ff q Q z hf K =>
  c579 (B580_0_10 (B580_199 z.1 rfl (s1 := 1) (s2 := 0) (by omega) (B18_0 z.1 rfl (s1 := 1) (s2 := 0) (by omega) (c19x hx z.1 (NB_vr z) (by omega) (retx (x := 2) (retx (x := 2) (tl_6 (K h N (NB_up z (by omega)) ofr_rf))))))))
theorem cs11x (hx : noc A x) : CS SC (i32 11) x y A W OUT9 A 0 1 := fun h b N ff q Q z hf K =>
  c579 (B580_0_11 (B580_207 z.1 rfl (s1 := 1) (s2 := 0) (by omega) (B20_0 z.1 rfl (s1 := 1) (s2 := 0) (by omega) (c19x hx z.1 (NB_vr z) (by omega) (retx (x := 2) (retx (x := 2) (tl_6 (K h N (NB_up z (by omega)) ofr_rf))))))))
theorem cs12x (hx : noc A x) : CS SC (i32 12) x y A W OUT9 A 0 1 := fun h b N ff q Q z hf K =>
  c579 (B580_0_12 (B580_215 z.1 rfl (s1 := 1) (s2 := 0) (by omega) (B21_0 z.1 rfl (s1 := 1) (s2 := 0) (by omega) (c19x hx z.1 (NB_vr z) (by omega) (retx (x := 2) (retx (x := 2) (tl_6 (K h N (NB_up z (by omega)) ofr_rf))))))))
theorem cs17x (hx : noc A x) : CS SC (i32 17) x y A W OUT9 A 0 1 := fun h b N ff q Q z hf K =>
  c579 (B580_0_17 (B580_252 z.1 rfl (s1 := 1) (s2 := 0) (by omega) (B26_0 z.1 rfl (s1 := 1) (s2 := 0) (by omega) (c19x hx z.1 (NB_vr z) (by omega) (retx (x := 2) (retx (x := 2) (tl_6 (K h N (NB_up z (by omega)) ofr_rf))))))))
theorem cs21x (hx : noc A x) : CS SC (i32 21) x y A W OUT9 A 0 1 := fun h b N ff q Q z hf K =>
  c579 (B580_0_21 (B580_287 z.1 rfl (s1 := 1) (s2 := 0) (by omega) (B31_0 z.1 rfl (s1 := 1) (s2 := 0) (by omega) (c19x hx z.1 (NB_vr z) (by omega) (retx (x := 2) (retx (x := 2) (tl_6 (K h N (NB_up z (by omega)) ofr_rf))))))))
theorem cs22x (hx : noc A x) : CS SC (i32 22) x y A W OUT9 A 0 1 := fun h b N ff q Q z hf K =>
  c579 (B580_0_22 (B580_294 z.1 rfl (s1 := 1) (s2 := 0) (by omega) (B32_0 z.1 rfl (s1 := 1) (s2 := 0) (by omega) (c19x hx z.1 (NB_vr z) (by omega) (retx (x := 2) (retx (x := 2) (tl_6 (K h N (NB_up z (by omega)) ofr_rf))))))))
theorem cs23x (hx : noc A x) : CS SC (i32 23) x y A W OUT9 A 0 1 := fun h b N ff q Q z hf K =>
  c579 (B580_0_23 (B580_308 z.1 rfl (s1 := 1) (s2 := 0) (by omega) (B33_0 z.1 rfl (s1 := 1) (s2 := 0) (by omega) (c19x hx z.1 (NB_vr z) (by omega) (retx (x := 2) (retx (x := 2) (tl_6 (K h N (NB_up z (by omega)) ofr_rf))))))))
theorem cs24x (hx : noc A x) : CS SC (i32 24) x y A W OUT9 A 0 1 := fun h b N ff q Q z hf K =>
  c579 (B580_0_24 (B580_316 z.1 rfl (s1 := 1) (s2 := 0) (by omega) (B34_0 z.1 rfl (s1 := 1) (s2 := 0) (by omega) (c19x hx z.1 (NB_vr z) (by omega) (retx (x := 2) (retx (x := 2) (tl_6 (K h N (NB_up z (by omega)) ofr_rf))))))))
theorem cs25x (hx : noc A x) : CS SC (i32 25) x y A W OUT9 A 0 1 := fun h b N ff q Q z hf K =>
  c579 (B580_0_25 (B580_323 z.1 rfl (s1 := 1) (s2 := 0) (by omega) (B35_0 z.1 rfl (s1 := 1) (s2 := 0) (by omega) (c19x hx z.1 (NB_vr z) (by omega) (retx (x := 2) (retx (x := 2) (tl_6 (K h N (NB_up z (by omega)) ofr_rf))))))))
theorem cs26x (hx : noc A x) : CS SC (i32 26) x y A W OUT9 A 0 1 := fun h b N ff q Q z hf K =>
  c579 (B580_0_26 (B580_330 z.1 rfl (s1 := 1) (s2 := 0) (by omega) (B36_0 z.1 rfl (s1 := 1) (s2 := 0) (by omega) (c19x hx z.1 (NB_vr z) (by omega) (retx (x := 2) (retx (x := 2) (tl_6 (K h N (NB_up z (by omega)) ofr_rf))))))))
theorem cs27x (hx : noc A x) : CS SC (i32 27) x y A W OUT9 A 0 1 := fun h b N ff q Q z hf K =>
  c579 (B580_0_27 (B580_337 z.1 rfl (s1 := 1) (s2 := 0) (by omega) (B37_0 z.1 rfl (s1 := 1) (s2 := 0) (by omega) (c19x hx z.1 (NB_vr z) (by omega) (retx (x := 2) (retx (x := 2) (tl_6 (K h N (NB_up z (by omega)) ofr_rf))))))))
theorem cs28x (hx : noc A x) : CS SC (i32 28) x y A W OUT9 A 0 1 := fun h b N ff q Q z hf K =>
  c579 (B580_0_28 (B580_344 z.1 rfl (s1 := 1) (s2 := 0) (by omega) (B38_0 z.1 rfl (s1 := 1) (s2 := 0) (by omega) (c19x hx z.1 (NB_vr z) (by omega) (retx (x := 2) (retx (x := 2) (tl_6 (K h N (NB_up z (by omega)) ofr_rf))))))))
theorem cs29x (hx : noc A x) : CS SC (i32 29) x y A W OUT9 A 0 1 := fun h b N ff q Q z hf K =>
  c579 (B580_0 (Or.inr (by decide)) (B580_351 z.1 rfl (s1 := 1) (s2 := 0) (by omega) (B39_0 z.1 rfl (s1 := 1) (s2 := 0) (by omega) (c19x hx z.1 (NB_vr z) (by omega) (retx (x := 2) (retx (x := 2) (tl_6 (K h N (NB_up z (by omega)) ofr_rf))))))))
theorem cs0 (hp : (nP A).length < 20) : CS SC (i32 0) x y A W (i32 ((nP A).length + 1)).toInt64 (nP A ++ [tE 0 0 x.toInt64 .leaf .leaf .leaf], A.2) 1 1 := fun h b N ff q Q z hf K =>
  c579 (B580_0_0 (B580_132 z.1 rfl (s1 := 1) (s2 := 0) (by omega) (wp_up (d := 1) (by omega) (Nat.le_refl _) (c1 (d := 0) z (fun e => by omega) (fun _ h9 n9 o9 => ret1 (B580_138 (tl_2 (K h9 N (NB_up n9 (by omega)) o9))))))))
theorem cs0n (hp : (nP A).length = 20) : CS SC (i32 0) x y A W NOT9 A 0 1 := fun h b N ff q Q z hf K =>
  c579 (B580_0_0 (B580_132 z.1 rfl (s1 := 1) (s2 := 0) (by omega) (wp_up (d := 1) (by omega) (Nat.le_refl _) (c1 (d := 0) z (fun _ => ⟨by omega, retx (x := 0) (tl_4 (K h N (NB_up z (by omega)) ofr_rf))⟩) (fun e => by omega)))))
theorem cs1 {n : Nat} (hn : n < 16) (hp : (nP A).length < 20) : CS SC (i32 1) (i32 n) y A W (i32 ((nP A).length + 1)).toInt64 (nP A ++ [tE 1 n 0 .leaf .leaf .leaf], A.2) 1 1 := fun h b N ff q Q z hf K =>
  c579 (B580_0_1 (B580_140 z.1 rfl (s1 := 1) (s2 := 0) (by omega) (wp_up (d := 1) (by omega) (Nat.le_refl _) (c4 (d := 0) hn z (fun e => by omega) (fun _ h9 n9 o9 => ret1 (B580_145 (tl_2 (K h9 N (NB_up n9 (by omega)) o9))))))))
theorem cs1n {n : Nat} (hn : n < 16) (hp : (nP A).length = 20) : CS SC (i32 1) (i32 n) y A W NOT9 A 0 1 := fun h b N ff q Q z hf K =>
  c579 (B580_0_1 (B580_140 z.1 rfl (s1 := 1) (s2 := 0) (by omega) (wp_up (d := 1) (by omega) (Nat.le_refl _) (c4 (d := 0) hn z (fun _ => ⟨by omega, retx (x := 0) (tl_4 (K h N (NB_up z (by omega)) ofr_rf))⟩) (fun e => by omega)))))
theorem cs1x (hx : x < 0 ∨ ¬ x < i32 16) : CS SC (i32 1) x y A W OUT9 A 0 1 := fun h b N ff q Q z hf K =>
  c579 (B580_0_1 (B580_140 z.1 rfl (s1 := 1) (s2 := 0) (by omega) (wp_up (d := 1) (by omega) (Nat.le_refl _) (c4x (d := 0) hx z (by omega) (retx (x := 2) (tl_6 (K h N (NB_up z (by omega)) ofr_rf)))))))
theorem cs2 {n : Nat} (hn : n < 4) (hp : (nP A).length < 20) : CS SC (i32 2) (i32 n) y A W (i32 ((nP A).length + 1)).toInt64 (nP A ++ [tE 2 n 0 .leaf .leaf .leaf], A.2) 1 1 := fun h b N ff q Q z hf K =>
  c579 (B580_0_2 (B580_147 z.1 rfl (s1 := 1) (s2 := 0) (by omega) (wp_up (d := 1) (by omega) (Nat.le_refl _) (c6 (d := 0) hn z (fun e => by omega) (fun _ h9 n9 o9 => ret1 (B580_152 (tl_2 (K h9 N (NB_up n9 (by omega)) o9))))))))
theorem cs2n {n : Nat} (hn : n < 4) (hp : (nP A).length = 20) : CS SC (i32 2) (i32 n) y A W NOT9 A 0 1 := fun h b N ff q Q z hf K =>
  c579 (B580_0_2 (B580_147 z.1 rfl (s1 := 1) (s2 := 0) (by omega) (wp_up (d := 1) (by omega) (Nat.le_refl _) (c6 (d := 0) hn z (fun _ => ⟨by omega, retx (x := 0) (tl_4 (K h N (NB_up z (by omega)) ofr_rf))⟩) (fun e => by omega)))))
theorem cs2x (hx : x < 0 ∨ ¬ x < i32 4) : CS SC (i32 2) x y A W OUT9 A 0 1 := fun h b N ff q Q z hf K =>
  c579 (B580_0_2 (B580_147 z.1 rfl (s1 := 1) (s2 := 0) (by omega) (wp_up (d := 1) (by omega) (Nat.le_refl _) (c6x (d := 0) hx z (by omega) (retx (x := 2) (tl_6 (K h N (NB_up z (by omega)) ofr_rf)))))))
theorem cs3 (ht : ¬ tooM 1 (nP A)) : CS SC (i32 3) x y A W (i32 ((nP A).dropLast.length + 1)).toInt64 ((nP A).dropLast ++ [tE 3 0 0 (tp (nP A)) .leaf .leaf], A.2) 1 1 := fun h b N ff q Q z hf K =>
  c579 (B580_0_3 (B580_154 z.1 rfl (s1 := 1) (s2 := 0) (by omega) (wp_up (d := 1) (by omega) (Nat.le_refl _) (c8 (d := 0) z (fun e => absurd e ht) (fun _ h9 n9 o9 => ret1 (B580_158 (tl_2 (K h9 N (NB_up n9 (by omega)) o9))))))))
theorem cs3n (ht : tooM 1 (nP A)) : CS SC (i32 3) x y A W NOT9 A 0 1 := fun h b N ff q Q z hf K =>
  c579 (B580_0_3 (B580_154 z.1 rfl (s1 := 1) (s2 := 0) (by omega) (wp_up (d := 1) (by omega) (Nat.le_refl _) (c8 (d := 0) z (fun _ => ⟨by omega, retx (x := 0) (tl_4 (K h N (NB_up z (by omega)) ofr_rf))⟩) (fun e => absurd ht e)))))
theorem cs5 (ht : ¬ tooM 3 (nP A)) : CS SC (i32 5) x y A W (i32 ((nP A).dropLast.dropLast.dropLast.length + 1)).toInt64 ((nP A).dropLast.dropLast.dropLast ++ [tE 5 0 0 (tp (nP A).dropLast.dropLast) (tp (nP A).dropLast) (tp (nP A))], A.2) 1 1 := fun h b N ff q Q z hf K =>
  c579 (B580_0_5 (B580_167 z.1 rfl (s1 := 1) (s2 := 0) (by omega) (wp_up (d := 1) (by omega) (Nat.le_refl _) (c12 (d := 0) z (fun e => absurd e ht) (fun _ h9 n9 o9 => ret1 (B580_171 (tl_2 (K h9 N (NB_up n9 (by omega)) o9))))))))
theorem cs5n (ht : tooM 3 (nP A)) : CS SC (i32 5) x y A W NOT9 A 0 1 := fun h b N ff q Q z hf K =>
  c579 (B580_0_5 (B580_167 z.1 rfl (s1 := 1) (s2 := 0) (by omega) (wp_up (d := 1) (by omega) (Nat.le_refl _) (c12 (d := 0) z (fun _ => ⟨by omega, retx (x := 0) (tl_4 (K h N (NB_up z (by omega)) ofr_rf))⟩) (fun e => absurd ht e)))))
theorem cs8 (ht : ¬ tooM 2 (nP A)) : CS SC (i32 8) x y A W (i32 ((nP A).dropLast.dropLast.length + 1)).toInt64 ((nP A).dropLast.dropLast ++ [tE 8 0 0 (tp (nP A).dropLast) (tp (nP A)) .leaf], A.2) 1 1 := fun h b N ff q Q z hf K =>
  c579 (B580_0_8 (B580_187 z.1 rfl (s1 := 1) (s2 := 0) (by omega) (wp_up (d := 1) (by omega) (Nat.le_refl _) (c15 (d := 0) z (fun e => absurd e ht) (fun _ h9 n9 o9 => ret1 (B580_191 (tl_2 (K h9 N (NB_up n9 (by omega)) o9))))))))
theorem cs8n (ht : tooM 2 (nP A)) : CS SC (i32 8) x y A W NOT9 A 0 1 := fun h b N ff q Q z hf K =>
  c579 (B580_0_8 (B580_187 z.1 rfl (s1 := 1) (s2 := 0) (by omega) (wp_up (d := 1) (by omega) (Nat.le_refl _) (c15 (d := 0) z (fun _ => ⟨by omega, retx (x := 0) (tl_4 (K h N (NB_up z (by omega)) ofr_rf))⟩) (fun e => absurd ht e)))))
theorem cs4 {n : Nat} (hn : n < 4) (ht : ¬ tooM 2 (nP A)) : CS SC (i32 4) (i32 n) y A W (i32 ((nP A).dropLast.dropLast.length + 1)).toInt64 ((nP A).dropLast.dropLast ++ [tE 4 n 0 (tp (nP A).dropLast) (tp (nP A)) .leaf], A.2) 1 1 := fun h b N ff q Q z hf K =>
  c579 (B580_0_4 (B580_160 z.1 rfl (s1 := 1) (s2 := 0) (by omega) (wp_up (d := 1) (by omega) (Nat.le_refl _) (c11 (d := 0) hn z (fun e => absurd e ht) (fun _ h9 n9 o9 => ret1 (B580_165 (tl_2 (K h9 N (NB_up n9 (by omega)) o9))))))))
theorem cs4n {n : Nat} (hn : n < 4) (ht : tooM 2 (nP A)) : CS SC (i32 4) (i32 n) y A W NOT9 A 0 1 := fun h b N ff q Q z hf K =>
  c579 (B580_0_4 (B580_160 z.1 rfl (s1 := 1) (s2 := 0) (by omega) (wp_up (d := 1) (by omega) (Nat.le_refl _) (c11 (d := 0) hn z (fun _ => ⟨by omega, retx (x := 0) (tl_4 (K h N (NB_up z (by omega)) ofr_rf))⟩) (fun e => absurd ht e)))))
theorem cs6 {n : Nat} (hn : n < 16) (ht : ¬ tooM 2 (nP A)) : CS SC (i32 6) (i32 n) y A W (i32 ((nP A).dropLast.dropLast.length + 1)).toInt64 ((nP A).dropLast.dropLast ++ [tE 6 n 0 (tp (nP A).dropLast) (tp (nP A)) .leaf], A.2) 1 1 := fun h b N ff q Q z hf K =>
  c579 (B580_0_6 (B580_173 z.1 rfl (s1 := 1) (s2 := 0) (by omega) (wp_up (d := 1) (by omega) (Nat.le_refl _) (c13 (d := 0) hn z (fun e => absurd e ht) (fun _ h9 n9 o9 => ret1 (B580_178 (tl_2 (K h9 N (NB_up n9 (by omega)) o9))))))))
theorem cs6n {n : Nat} (hn : n < 16) (ht : tooM 2 (nP A)) : CS SC (i32 6) (i32 n) y A W NOT9 A 0 1 := fun h b N ff q Q z hf K =>
  c579 (B580_0_6 (B580_173 z.1 rfl (s1 := 1) (s2 := 0) (by omega) (wp_up (d := 1) (by omega) (Nat.le_refl _) (c13 (d := 0) hn z (fun _ => ⟨by omega, retx (x := 0) (tl_4 (K h N (NB_up z (by omega)) ofr_rf))⟩) (fun e => absurd ht e)))))
theorem cs7 {n : Nat} (hn : n < 16) (ht : ¬ tooM 1 (nP A)) : CS SC (i32 7) (i32 n) y A W (i32 ((nP A).dropLast.length + 1)).toInt64 ((nP A).dropLast ++ [tE 7 n 0 .leaf (tp (nP A)) .leaf], A.2) 1 1 := fun h b N ff q Q z hf K =>
  c579 (B580_0_7 (B580_180 z.1 rfl (s1 := 1) (s2 := 0) (by omega) (wp_up (d := 1) (by omega) (Nat.le_refl _) (c14 (d := 0) hn z (fun e => absurd e ht) (fun _ h9 n9 o9 => ret1 (B580_185 (tl_2 (K h9 N (NB_up n9 (by omega)) o9))))))))
theorem cs7n {n : Nat} (hn : n < 16) (ht : tooM 1 (nP A)) : CS SC (i32 7) (i32 n) y A W NOT9 A 0 1 := fun h b N ff q Q z hf K =>
  c579 (B580_0_7 (B580_180 z.1 rfl (s1 := 1) (s2 := 0) (by omega) (wp_up (d := 1) (by omega) (Nat.le_refl _) (c14 (d := 0) hn z (fun _ => ⟨by omega, retx (x := 0) (tl_4 (K h N (NB_up z (by omega)) ofr_rf))⟩) (fun e => absurd ht e)))))
theorem cs4x (hx : x < 0 ∨ ¬ x < i32 4) : CS SC (i32 4) x y A W BAD9 A 0 1 := fun h b N ff q Q z hf K =>
  c579 (B580_0_4 (B580_160 z.1 rfl (s1 := 1) (s2 := 0) (by omega) (wp_up (d := 1) (by omega) (Nat.le_refl _) (c11x (d := 0) hx (by omega) (retx (x := 1) (tl_5 (K h N (NB_up z (by omega)) ofr_rf)))))))
theorem cs6x (hx : x < 0 ∨ ¬ x < i32 16) : CS SC (i32 6) x y A W OUT9 A 0 1 := fun h b N ff q Q z hf K =>
  c579 (B580_0_6 (B580_173 z.1 rfl (s1 := 1) (s2 := 0) (by omega) (wp_up (d := 1) (by omega) (Nat.le_refl _) (c13x (d := 0) hx z (by omega) (retx (x := 2) (tl_6 (K h N (NB_up z (by omega)) ofr_rf)))))))
theorem cs7x (hx : x < 0 ∨ ¬ x < i32 16) : CS SC (i32 7) x y A W OUT9 A 0 1 := fun h b N ff q Q z hf K =>
  c579 (B580_0_7 (B580_180 z.1 rfl (s1 := 1) (s2 := 0) (by omega) (wp_up (d := 1) (by omega) (Nat.le_refl _) (c14x (d := 0) hx z (by omega) (retx (x := 2) (tl_6 (K h N (NB_up z (by omega)) ofr_rf)))))))
theorem cs11b {c : Nat} (hc : c < 12) (ht : ((nV A) c).1 = true) (hy : y < 0 ∨ ¬ y < i32 16) : CS SC (i32 11) (i32 c) y A W OUT9 A 0 1 := fun h b N ff q Q z hf K =>
  c579 (B580_0_11 (B580_207 z.1 rfl (s1 := 1) (s2 := 0) (by omega) (B20_0 z.1 rfl (s1 := 0) (s2 := 1) (by omega) (c19 hc ht z.1 (NB_vr z) (ret0 (B20_5 z.1 rfl (s1 := 1) (s2 := 0) (by omega) (c5x hy (by omega) (retx (x := 2) (retx (x := 2) (tl_6 (K h N (NB_up z (by omega)) ofr_rf)))))))))))
theorem cs13x (hx : x < 0 ∨ ¬ x < i32 16) : CS SC (i32 13) x y A W OUT9 A 0 1 := fun h b N ff q Q z hf K =>
  c579 (B580_0_13 (B580_222 z.1 rfl (s1 := 1) (s2 := 0) (by omega) (B22_0 z.1 rfl (s1 := 1) (s2 := 0) (by omega) (c5x hx (by omega) (retx (x := 2) (retx (x := 2) (tl_6 (K h N (NB_up z (by omega)) ofr_rf))))))))
theorem cs13b {n : Nat} (hn : n < 16) (hy : y < 0 ∨ ¬ y < i32 16) : CS SC (i32 13) (i32 n) y A W OUT9 A 0 1 := fun h b N ff q Q z hf K =>
  c579 (B580_0_13 (B580_222 z.1 rfl (s1 := 1) (s2 := 0) (by omega) (B22_0 z.1 rfl (s1 := 0) (s2 := 1) (by omega) (c5 hn (ret0 (B22_5 z.1 rfl (s1 := 1) (s2 := 0) (by omega) (c5x hy (by omega) (retx (x := 2) (retx (x := 2) (tl_6 (K h N (NB_up z (by omega)) ofr_rf)))))))))))
theorem cs14x (hx : x < 0 ∨ ¬ x < i32 4) : CS SC (i32 14) x y A W OUT9 A 0 1 := fun h b N ff q Q z hf K =>
  c579 (B580_0_14 (B580_230 z.1 rfl (s1 := 1) (s2 := 0) (by omega) (wp_up (d := 1) (by omega) (Nat.le_refl _) (c23x (d := 0) hx z (by omega) (retx (x := 2) (tl_6 (K h N (NB_up z (by omega)) ofr_rf)))))))
theorem cs16x (hx : x < 0 ∨ i32 2 < x) : CS SC (i32 16) x y A W BAD9 A 0 1 := fun h b N ff q Q z hf K =>
  c579 (B580_0_16 (B580_245 z.1 rfl (s1 := 1) (s2 := 0) (by omega) (wp_up (d := 1) (by omega) (Nat.le_refl _) (c25x (d := 0) hx (by omega) (retx (x := 1) (tl_5 (K h N (NB_up z (by omega)) ofr_rf)))))))
theorem cs19x (hx : (x < 0 ∨ ¬ x < i32 (nB A).length) ∨ ∃ k U, x = i32 k ∧ (nB A)[k]? = some U ∧ (y < 0 ∨ ¬ y < i32 (nM A))) : CS SC (i32 19) x y A W OUT9 A 0 1 := fun h b N ff q Q z hf K => by
  rcases hx with hx | ⟨k, U, h1, h2, h3⟩
  · exact c579 (B580_0_19 (B580_265 z.1 rfl (s1 := 1) (s2 := 0) (by omega) (wp_up (d := 1) (by omega) (Nat.le_refl _) (c28x (d := 0) (k := 0) (Or.inr hx) z (by omega) (retx (x := 2) (tl_6 (K h N (NB_up z (by omega)) ofr_rf)))))))
  · exact c579 (B580_0_19 (B580_265 z.1 rfl (s1 := 1) (s2 := 0) (by omega) (wp_up (d := 1) (by omega) (Nat.le_refl _) (c28x (d := 0) (k := k) (Or.inl ⟨h1, ⟨U, h2⟩, h3⟩) z (by omega) (retx (x := 2) (tl_6 (K h N (NB_up z (by omega)) ofr_rf)))))))
theorem cs20x (hx : x < 0 ∨ ¬ x < i32 (nB A).length) : CS SC (i32 20) x y A W OUT9 A 0 1 := fun h b N ff q Q z hf K =>
  c579 (B580_0_20 (B580_280 z.1 rfl (s1 := 1) (s2 := 0) (by omega) (wp_up (d := 1) (by omega) (Nat.le_refl _) (c30x (d := 0) hx z (by omega) (retx (x := 2) (tl_6 (K h N (NB_up z (by omega)) ofr_rf)))))))
theorem cs20 {k : Nat} {U : Vr} (hU : (nB A)[k]? = some U) : CS SC (i32 20) (i32 k) y A W (i32 (dff (nV A) U 12)).toInt64 A 0 1 := fun h b N ff q Q z hf K =>
  c579 (B580_0_20 (B580_280 z.1 rfl (s1 := 1) (s2 := 0) (by omega) (c30 hU z (ret1 (B580_285 (tl_2 (K h N (NB_up z (by omega)) ofr_rf)))))))
theorem cs21 {c : Nat} (hc : c < 12) (ht : ((nV A) c).1 = true) : CS SC (i32 21) (i32 c) y A W ((nY A).1 c).1.toInt64 A 0 1 := fun h b N ff q Q z hf K =>
  c579 (B580_0_21 (B580_287 z.1 rfl (s1 := 1) (s2 := 0) (by omega) (wp_up (d := 1) (by omega) (Nat.le_refl _) (c31 (d := 0) hc ht z (ret1 (B580_292 (tl_2 (K h N (NB_up z (by omega)) ofr_rf))))))))
theorem cs24 {c n : Nat} (hc : c < 12) (hn : n < 16) (ht : ((nV A) c).1 = true) {v : Tr} (hv : lkp n (rK ((nY A).1 c)) = some v) (hC : ¬ isC v = true) : CS SC (i32 24) (i32 c) (i32 n) A W (num v) A 0 1 := fun h b N ff q Q z hf K =>
  c579 (B580_0_24 (B580_316 z.1 rfl (s1 := 1) (s2 := 0) (by omega) (wp_up (d := 2) (by omega) (Nat.le_refl _) (c34 (d := 0) hc hn ht z (fun y => absurd (by rw [hv, knd_s, if_neg hC]) y) (fun v' h1 _ => by
    rw [hv] at h1
    cases h1
    exact ret2 (B580_322 (tl_2 (K h N (NB_up z (by omega)) ofr_rf))))))))
theorem cs24n {c n : Nat} (hc : c < 12) (hn : n < 16) (ht : ((nV A) c).1 = true) (hv : ¬ knd (lkp n (rK ((nY A).1 c))) = 1) : CS SC (i32 24) (i32 c) (i32 n) A W NOT9 A 0 1 := fun h b N ff q Q z hf K =>
  c579 (B580_0_24 (B580_316 z.1 rfl (s1 := 1) (s2 := 0) (by omega) (wp_up (d := 2) (by omega) (Nat.le_refl _) (c34 (d := 0) hc hn ht z (fun _ => ⟨by omega, retx (x := 0) (tl_4 (K h N (NB_up z (by omega)) ofr_rf))⟩) (fun v' h1 h2 => absurd (by rw [h1, knd_s, if_neg h2]) hv)))))
theorem cs29 {c : Nat} (hc : c < 12) (ht : ((nV A) c).1 = true) : CS SC (i32 29) (i32 c) y A W (i32 ((nY A).1 c).2.1).toInt64 A 0 1 := fun h b N ff q Q z hf K =>
  c579 (B580_0 (Or.inr (by decide)) (B580_351 z.1 rfl (s1 := 1) (s2 := 0) (by omega) (wp_up (d := 1) (by omega) (Nat.le_refl _) (c39 (d := 0) hc ht z (ret1 (B580_356 (tl_2 (K h N (NB_up z (by omega)) ofr_rf))))))))
end CC
section CR
variable {SC : List Value} {A : Nb} {W : Nat} {x y : Int32}
theorem cs9 (hL : rmL (nY A).1 W) (hW : W ≤ 400000) (hm : nM A < 12) : CS SC (i32 9) x y A W (i32 (nM A)).toInt64 (aS (aCell A) (cao (nO A))) 0 1 := fun h b N ff q Q z hf K =>
  c579 (B580_0_9 (B580_193 z.1 rfl (s1 := 1) (s2 := 0) (by omega) (c16 (d := 0) z hL hf hW (fun e => by omega) (fun _ h9 N9 n9 o9 => ret1 (B580_197 (tl_2 (K h9 N9 n9 o9)))))))
theorem cs9n (hL : rmL (nY A).1 W) (hW : W ≤ 400000) (hm : nM A = 12) : CS SC (i32 9) x y A W NOT9 A 0 1 := fun h b N ff q Q z hf K =>
  c579 (B580_0_9 (B580_193 z.1 rfl (s1 := 1) (s2 := 0) (by omega) (c16 (d := 0) z hL hf hW (fun _ => ⟨by omega, retx (x := 0) (tl_4 (K h N (NB_up z (by omega)) ofr_rf))⟩) (fun e => by omega))))
theorem cs10 {c nm : Nat} (hL : rmL (nY A).1 W) (hW : W ≤ 400000) (hc : c < 12) (hn : nm < 16) (ht : ((nV A) c).1 = true) (hd : ¬ noDef A c nm) : CS SC (i32 10) (i32 c) (i32 nm) A W (i32 (cput ((nV A) c).2 nm (tp (nP A))).length).toInt64 (aS (aDef A c nm) (cao (nO A))) 0 1 := fun h b N ff q Q z hf K =>
  c579 (B580_0_10 (B580_199 z.1 rfl (s1 := 1) (s2 := 0) (by omega) (c18 (d := 0) hc hn ht z hL hf hW (fun e => absurd e hd) (fun _ h9 N9 n9 o9 => ret1 (B580_205 (tl_2 (K h9 N9 n9 o9)))))))
theorem cs10n {c nm : Nat} (hL : rmL (nY A).1 W) (hW : W ≤ 400000) (hc : c < 12) (hn : nm < 16) (ht : ((nV A) c).1 = true) (hd : noDef A c nm) : CS SC (i32 10) (i32 c) (i32 nm) A W NOT9 A 0 1 := fun h b N ff q Q z hf K =>
  c579 (B580_0_10 (B580_199 z.1 rfl (s1 := 1) (s2 := 0) (by omega) (c18 (d := 0) hc hn ht z hL hf hW (fun _ => ⟨by omega, retx (x := 0) (tl_4 (K h N (NB_up z (by omega)) ofr_rf))⟩) (fun e => absurd hd e))))
theorem cs11 {c nm i : Nat} (hL : rmL (nY A).1 W) (hW : W ≤ 400000) (hc : c < 12) (hn : nm < 16) (ht : ((nV A) c).1 = true) (hi : pof nm ((nV A) c).2 = some i) : CS SC (i32 11) (i32 c) (i32 nm) A W (i32 (((nV A) c).2.eraseIdx i).length).toInt64 (aS (aDrp A c i) (cao (nO A))) 0 1 := fun h b N ff q Q z hf K =>
  c579 (B580_0_11 (B580_207 z.1 rfl (s1 := 1) (s2 := 0) (by omega) (c20 (d := 0) hc hn ht z hL hf hW (fun e => by rw [hi] at e; cases e) (fun i' h1 h9 N9 n9 o9 => by
    rw [hi] at h1
    cases h1
    exact ret1 (B580_213 (tl_2 (K h9 N9 n9 o9)))))))
theorem cs11n {c nm : Nat} (hL : rmL (nY A).1 W) (hW : W ≤ 400000) (hc : c < 12) (hn : nm < 16) (ht : ((nV A) c).1 = true) (hi : pof nm ((nV A) c).2 = none) : CS SC (i32 11) (i32 c) (i32 nm) A W NOT9 A 0 1 := fun h b N ff q Q z hf K =>
  c579 (B580_0_11 (B580_207 z.1 rfl (s1 := 1) (s2 := 0) (by omega) (c20 (d := 0) hc hn ht z hL hf hW (fun _ => ⟨by omega, retx (x := 0) (tl_4 (K h N (NB_up z (by omega)) ofr_rf))⟩) (fun i' h1 => by rw [hi] at h1; cases h1))))
theorem cs12 {c : Nat} (hL : rmL (nY A).1 W) (hW : W ≤ 400000) (hc : c < 12) (ht : ((nV A) c).1 = true) : CS SC (i32 12) (i32 c) y A W (i32 (pc12 (vcl (vup (nV A) c (false, [])) 12))).toInt64 (aS (aRem A c) (cao (nO A))) 0 1 := fun h b N ff q Q z hf K =>
  c579 (B580_0_12 (B580_215 z.1 rfl (s1 := 1) (s2 := 0) (by omega) (c21 (d := 0) hc ht z hL hf hW (fun h9 N9 n9 o9 => ret1 (B580_220 (tl_2 (K h9 N9 n9 o9)))))))
theorem cs13 {nm ot : Nat} (hL : rmL (nY A).1 W) (hW : W ≤ 400000) (hn : nm < 16) (ho : ot < 16) (h1 : ¬ (nm = ot ∨ vmn (nV A) ot 12 = true)) (h2 : ¬ dfm (nV A) nm 12 = 0) : CS SC (i32 13) (i32 nm) (i32 ot) A W (i32 (vxn nm (nV A) 12)).toInt64 (aS (aRen A nm ot) (cao (nO A))) (vps (nV A) 12) 1 := fun h b N ff q Q z hf K =>
  c579 (B580_0_13 (B580_222 z.1 rfl (s1 := 1) (s2 := 0) (by omega) (c22 (d := 0) hn ho z hL hf hW (fun e => absurd e h1) (fun _ e => absurd e h2) (fun _ _ h9 N9 n9 o9 => ret1 (B580_228 (tl_2 (K h9 N9 n9 o9)))))))
theorem cs13z {nm ot : Nat} (hL : rmL (nY A).1 W) (hW : W ≤ 400000) (hn : nm < 16) (ho : ot < 16) (h1 : ¬ (nm = ot ∨ vmn (nV A) ot 12 = true)) (h2 : dfm (nV A) nm 12 = 0) : CS SC (i32 13) (i32 nm) (i32 ot) A W (0 : Int32).toInt64 A 0 1 := fun h b N ff q Q z hf K =>
  c579 (B580_0_13 (B580_222 z.1 rfl (s1 := 1) (s2 := 0) (by omega) (c22 (d := 0) hn ho z hL hf hW (fun e => absurd e h1) (fun _ _ => ret1 (B580_228 (tl_2 (K h N (NB_up z (by omega)) ofr_rf)))) (fun _ e => absurd h2 e))))
theorem cs13n {nm ot : Nat} (hL : rmL (nY A).1 W) (hW : W ≤ 400000) (hn : nm < 16) (ho : ot < 16) (h1 : nm = ot ∨ vmn (nV A) ot 12 = true) : CS SC (i32 13) (i32 nm) (i32 ot) A W NOT9 A 0 1 := fun h b N ff q Q z hf K =>
  c579 (B580_0_13 (B580_222 z.1 rfl (s1 := 1) (s2 := 0) (by omega) (c22 (d := 0) hn ho z hL hf hW (fun _ => ⟨by omega, retx (x := 0) (tl_4 (K h N (NB_up z (by omega)) ofr_rf))⟩) (fun e => absurd h1 e) (fun e => absurd h1 e))))
theorem cs14 {n : Nat} (hL : rmL (nY A).1 W) (hW : W ≤ 400000) (hn : n < 4) : CS SC (i32 14) (i32 n) y A W (nIp A n) (aS (aInp A n y.toInt64) (cao (nO A))) 0 1 := fun h b N ff q Q z hf K =>
  c579 (B580_0_14 (B580_230 z.1 rfl (s1 := 1) (s2 := 0) (by omega) (c23 (d := 0) hn z hL hf hW (fun h9 N9 n9 o9 => ret2 (B580_237 (tl_2 (K h9 N9 n9 o9)))))))
theorem cs15 (hL : rmL (nY A).1 W) (hW : W ≤ 400000) : CS SC (i32 15) x y A W (nS A).toInt64 (aS (aSed A x) (cao (nO A))) 0 1 := fun h b N ff q Q z hf K =>
  c579 (B580_0_15 (B580_238 z.1 rfl (c24 (d := 0) z hL hf hW (fun h9 N9 n9 o9 => ret1 (B580_243 (tl_2 (K h9 N9 n9 o9)))))))
theorem cs16 {o : Nat} (hL : rmL (nY A).1 W) (hW : W ≤ 400000) (ho : o ≤ 2) : CS SC (i32 16) (i32 o) y A W (i32 (nO A)).toInt64 (aS (aMod A o) (cao o)) 0 1 := fun h b N ff q Q z hf K =>
  c579 (B580_0_16 (B580_245 z.1 rfl (s1 := 1) (s2 := 0) (by omega) (c25 (d := 0) ho z hL hf hW (fun h9 N9 n9 o9 => ret1 (B580_250 (tl_2 (K h9 N9 n9 o9)))))))
theorem cs17h {c : Nat} (hL : rmL (nY A).1 W) (hW : W ≤ 400000) (hc : c < 12) (ht : ((nV A) c).1 = true) (ho : nO A = 2) : CS SC (i32 17) (i32 c) y A W (i32 (rOr (nV A) c)).toInt64 (aR A c) 0 1 := fun h b N ff q Q z hf K =>
  c579 (B580_0_17 (B580_252 z.1 rfl (s1 := 1) (s2 := 0) (by omega) (c26 (d := 0) hc ht z hL hf hW (fun _ h9 N9 n9 o9 => ret1 (B580_257 (tl_2 (K h9 N9 n9 o9)))) (fun e => absurd ho e))))
theorem cs17 {c : Nat} (hL : rmL (nY A).1 W) (hW : W ≤ 400000) (hc : c < 12) (ht : ((nV A) c).1 = true) (ho : ¬ nO A = 2) : CS SC (i32 17) (i32 c) y A W (i32 (stl (nV A) (nIp A) (nS A) 0 (wn (nV A) 12 c ||| 2 ^ c) (nY A)).2.1).toInt64 (aS A (wn (nV A) 12 c ||| 2 ^ c)) 0 1 := fun h b N ff q Q z hf K =>
  c579 (B580_0_17 (B580_252 z.1 rfl (s1 := 1) (s2 := 0) (by omega) (c26 (d := 0) hc ht z hL hf hW (fun e => absurd e ho) (fun _ h9 N9 n9 o9 _ => ret1 (B580_257 (tl_2 (K h9 N9 n9 o9)))))))
theorem cs18 (hl : (nB A).length < 4) : CS SC (i32 18) x y A W (i32 (nB A).length).toInt64 (aKp A) 39 2 := fun h b N ff q Q z hf K =>
  c579 (B580_0_18 (B580_259 z.1 rfl (s1 := 2) (s2 := 0) (by omega) (wp_up (d := 3) (by omega) (Nat.le_refl _) (c27 (d := 0) z (fun e => by omega) (fun _ => ⟨by omega, fun h9 n9 o9 => ret1 (B580_263 (tl_2 (K h9 N (NB_up n9 (by omega)) o9)))⟩)))))
theorem cs18n (hl : (nB A).length = 4) : CS SC (i32 18) x y A W NOT9 A 0 2 := fun h b N ff q Q z hf K =>
  c579 (B580_0_18 (B580_259 z.1 rfl (s1 := 2) (s2 := 0) (by omega) (wp_up (d := 3) (by omega) (Nat.le_refl _) (c27 (d := 0) z (fun _ => ⟨by omega, retx (x := 0) (tl_4 (K h N (NB_up z (by omega)) ofr_rf))⟩) (fun e => by omega)))))
theorem cs19 {k c : Nat} {U : Vr} (hL : rmL (nY A).1 W) (hW : W ≤ 400000) (hU : (nB A)[k]? = some U) (hc : c < nM A) (hs : ¬ smC (nV A) U c = true) : CS SC (i32 19) (i32 k) (i32 c) A W 1 (aS (aTk A U c) (cao (nO A))) 0 1 := fun h b N ff q Q z hf K =>
  c579 (B580_0_19 (B580_265 z.1 rfl (s1 := 1) (s2 := 0) (by omega) (c28 (d := 0) hU hc z hL hf hW (fun e => absurd e hs) (fun _ h9 N9 n9 o9 => ret1 (B580_271 (fun g => absurd g (by decide)) (fun _ => B580_274 (B580_279 (tl_2 (K h9 N9 n9 o9)))))))))
theorem cs19z {k c : Nat} {U : Vr} (hL : rmL (nY A).1 W) (hW : W ≤ 400000) (hU : (nB A)[k]? = some U) (hc : c < nM A) (hs : smC (nV A) U c = true) : CS SC (i32 19) (i32 k) (i32 c) A W 0 A 0 1 := fun h b N ff q Q z hf K =>
  c579 (B580_0_19 (B580_265 z.1 rfl (s1 := 1) (s2 := 0) (by omega) (c28 (d := 0) hU hc z hL hf hW (fun _ => ret1 (B580_271 (fun _ => B580_278 (B580_279 (tl_2 (K h N (NB_up z (by omega)) ofr_rf)))) (fun g => absurd rfl g))) (fun e => absurd hs e))))
end CR
