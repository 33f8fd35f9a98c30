/-! The law's exprs. -/
theorem lc_rf (a : Int64) : lg_cmp a a = 0 := by
  rcases lc_cases (a := a) (b := a) with ⟨y, -⟩ | ⟨-, y⟩ | ⟨y, -⟩
  · exact absurd y (Int64.lt_irrefl)
  · exact y
  · exact absurd y (Int64.lt_irrefl)
section EX
variable {SC : List Value} {q : Nat} {h : re_H} {Q : Nat → Value → re_H → Prop} {A A' A1 A1' : Nb} {bh n t ff zz : Nat} {N N' : List Nat}
/-- a push came off -/
theorem x584a {s : Nat} {P : List Tr} (z : JH h (P, A.2) A1' N N' ff zz (ds9 A bh)) (hl : P.length = (nP A).length + 1) (h20 : (nP A).length < 20) (K : ∀ h', JH h' (P, A.2) A1' N N' ff zz (ds9 (P, A.2) bh) → Q 1 (.int 1) h') : wp SC 584 39 s 80 [(2, .ref 602)] [.long (i32 ((nP A).length + 1)).toInt64] h Q := by
  have e4 := z.2.2.2.1
  have hlt := hg_lt e4
  refine B584_80 (xe1 := i32 (nP A).length) (row_ar (i := 0) e4 (by omega) rfl) (fun g => absurd ((lj_pos (by omega)).mpr (by omega)) g) (fun _ => B584_93 (B584_98 (i := 0) e4 rfl (by omega) (by show 0 < 5; omega) (B584_100 (fun _ => ?_) (fun g => absurd g (lj_NOT (by omega))))))
  have z2 := JH_w (ds1 := (ds9 A bh).set 0 (.int (i32 (nP A).length + i32 1))) z
  refine B584_125 (xe1 := i32 (nP A).length + i32 1) (row_ar (i := 0) z2.2.2.2.1 (by omega) rfl) (fun g => absurd (by rw [i3_add]) g) (fun _ => B584_135 (B584_140 (Or.inr rfl) (K _ ?_)))
  have e : (ds9 A bh).set 0 (.int (i32 (nP A).length + i32 1)) = ds9 (P, A.2) bh := by
    rw [i3_add]
    show [_, _, _, _, _] = [Value.int (i32 P.length), _, _, _, _]
    rw [hl]
  rw [e] at z2 ⊢
  exact z2
/-- it was refused -/
theorem x584b {s : Nat} (z : JH h A A1' N N' ff zz (ds9 A bh)) (h20 : (nP A).length = 20) (K : ∀ h', JH h' A A1' N N' ff zz (ds9 A bh) → Q 1 (.int 1) h') : wp SC 584 39 s 80 [(2, .ref 602)] [.long NOT9] h Q := by
  have e4 := z.2.2.2.1
  refine B584_80 (xe1 := i32 (nP A).length) (row_ar (i := 0) e4 (by omega) rfl) (fun _ => B584_97 (B584_98 (i := 0) e4 rfl (by omega) (by show 0 < 5; omega) (B584_100 (fun g => absurd rfl g) (fun _ => ?_)))) (fun g => absurd g (by decide))
  have z2 := JH_w (ds1 := (ds9 A bh).set 0 (.int (i32 (nP A).length + i32 0))) z
  have e : (ds9 A bh).set 0 (.int (i32 (nP A).length + i32 0)) = ds9 A bh := by
    rw [i3_add, Nat.add_zero]
    rfl
  refine B584_109 (xe1 := i32 (nP A).length + i32 0) (row_ar (i := 0) z2.2.2.2.1 (by omega) rfl) (fun g => absurd (by rw [i3_add, Nat.add_zero, h20]) g) (fun _ => B584_117 (B584_140 (Or.inr rfl) (K _ ?_)))
  rw [e] at z2 ⊢
  exact z2
/-- one of three pushes -/
theorem x584p {w x : Int32} {e0 : Tr} {pc0 : Nat} (go : ∀ (s : Nat) (l : Int64) h2, wp SC 584 39 s 80 [(2, .ref 602)] [.long l] h2 Q → wp SC 584 39 s pc0 [(2, .ref 602)] [.long l] h2 Q) (j : LJ A A' bh n t) (z : JH h A A' N N' ff zz (ds9 A bh)) (hf : ff + 10000000 < 2 ^ 62) (he : cdk e0 ∧ fre e0 < 64) (hp : pts e0 = 1) (c1 : ∀ B W, (nP B).length < 20 → CS SC w x (i32 0) B W (i32 ((nP B).length + 1)).toInt64 (nP B ++ [e0], B.2) 1 1) (c0 : ∀ B W, (nP B).length = 20 → CS SC w x (i32 0) B W NOT9 B 0 1) (K : ∀ h' A1 A1' N1 N1' ff1 zz1 bh1, EN n t ff zz (nB A).length h' A1 A1' N1 N1' ff1 zz1 bh1 → Q 1 (.int 1) h') : wp SC 581 38 (0 + 2 * 1) 0 [(0, .ref 0), (1, .ref 301), (2, .int w), (3, .int x), (4, .int (i32 0))] [] h (wp_ret SC 584 39 q pc0 [(2, .ref 602)] [] Q) := by
  have hP : nP A = nP A' := j.1.1
  rcases Nat.lt_or_ge (nP A).length 20 with g | g
  · have c1' := c1 A' Wt (by rw [← hP]; exact g)
    rw [← hP] at c1'
    refine both9 z (by omega) (c1 A Wo g) c1' (fun h' N1 N1' z' => ret2 (go _ _ _ (x584a z' (by simp) g (fun h2 z2 => K h2 _ _ N1 N1' _ _ bh ⟨LJ_P j (gd_app (LJ_gd j) he) (by rw [psum_app]; simp [psum, hp]), z2, by omega, ?_⟩))))
    show zz + 2 * 1 + 78 * (nB A).length ≤ zz + 2 * (n + 1) + 78 * (nB A).length
    omega
  · have g20 : (nP A).length = 20 := by have := NB_20 z.1; omega
    refine both9 z (by omega) (c0 A Wo g20) (c0 A' Wt (by rw [← hP]; exact g20)) (fun h' N1 N1' z' => ret2 (go _ _ _ (x584b z' g20 (fun h2 z2 => K h2 _ _ N1 N1' _ _ bh ⟨LJ_up j, z2, by omega, ?_⟩))))
    show zz + 2 * 0 + 78 * (nB A).length ≤ zz + 2 * (n + 1) + 78 * (nB A).length
    omega
/-- what takes exprs from the pile -/
theorem x584o {w xa : Int32} {least : Nat} {P : List Tr} (j : LJ A A' bh n t) (z : JH h A A' N N' ff zz (ds9 A bh)) (hf : ff + 10000000 < 2 ^ 62) (h1 : 1 ≤ least) (h3 : least ≤ 3) (hP : ¬ tooM least (nP A) → gd9 P ∧ psum P ≤ psum (nP A) + 1 ∧ P.length + least = (nP A).length + 1) (c1 : ∀ B W, nP B = nP A → ¬ tooM least (nP A) → CS SC w xa (i32 0) B W (i32 P.length).toInt64 (P, B.2) 1 1) (c0 : ∀ B W, nP B = nP A → tooM least (nP A) → CS SC w xa (i32 0) B W NOT9 B 0 1) (K : ∀ h' A1 A1' N1 N1' ff1 zz1 bh1, EN n t ff zz (nB A).length h' A1 A1' N1 N1' ff1 zz1 bh1 → Q 1 (.int 1) h') : wp SC 584 39 (q + 2) 213 [(2, .ref 602), (6, .int (i32 least))] [.int xa, .int w, .ref 301, .ref 0] h Q := by
  have hPP : nP A' = nP A := j.1.1.symm
  have h20 := NB_20 z.1
  refine L584_213 (s1 := 0 + 2 * 1) (s2 := q) (by omega) ?_
  by_cases ht : tooM least (nP A)
  · refine both9 z (by omega) (c0 A Wo rfl ht) (c0 A' Wt hPP ht) (fun h' N1 N1' z' => ret2 (B584_217 (fun _ => B584_251 (B584_256 (fun _ => ?_) (fun g => absurd g (by decide)))) (fun g => absurd rfl g)))
    have e4 := z'.2.2.2.1
    refine B584_273 (xe1 := i32 (nP A).length) (row_ar (i := 0) e4 (by omega) rfl) (B584_276 (i := 0) e4 rfl (by omega) (by show 0 < 5; omega) (B584_277 (Or.inr rfl) (K _ A A' N1 N1' _ _ bh ⟨LJ_up j, JH_w z', by omega, ?_⟩)))
    show zz + 2 * 0 + 78 * (nB A).length ≤ zz + 2 * (n + 1) + 78 * (nB A).length
    omega
  · obtain ⟨p1, p2, p3⟩ := hP ht
    have k0 : least ≤ (nP A).length := by
      rcases Nat.lt_or_ge (nP A).length least with g | g
      · exact absurd (Or.inl g) ht
      · exact g
    refine both9 z (by omega) (c1 A Wo rfl ht) (c1 A' Wt hPP ht) (fun h' N1 N1' z' => ret2 (B584_217 (fun g => absurd g (lj_NOT (by omega))) (fun _ => ?_)))
    have e4 := z'.2.2.2.1
    refine B584_228 (xe1 := i32 (nP A).length) (row_ar (i := 0) e4 (by omega) rfl) (fun g => absurd ((i3_lt (by omega) (by omega)).mp g) (by omega)) (fun _ => ?_)
    refine B584_236 (xe1 := i32 (nP A).length) (row_ar (i := 0) e4 (by omega) rfl) (fun g => absurd ?_ g) (fun _ => ?_)
    · rw [i3_sub (by omega), i3_add, show (nP A).length - least + 1 = P.length by omega]
      exact lc_rf _
    · refine B584_251 (B584_256 (fun g => absurd ((lj_pos (by omega)).mpr (by omega)) g) (fun _ => B584_267 (B584_276 (i := 0) e4 rfl (by omega) (by show 0 < 5; omega) (B584_277 (Or.inr rfl) (K _ (P, A.2) (P, A'.2) N1 N1' (ff + 72000) (zz + 2 * 1) bh ⟨LJ_P j p1 p2, ?_, by omega, ?_⟩)))))
      · have z2 := JH_w (ds1 := (ds9 A bh).set 0 (.int (i32 P.length).toInt64.toInt32)) z'
        rw [Int32.toInt32_toInt64] at z2 ⊢
        exact z2
      · show zz + 2 * 1 + 78 * (nB A).length ≤ zz + 2 * (n + 1) + 78 * (nB A).length
        omega
theorem x584_3 {x : Int32} (j : LJ A A' bh n t) (z : JH h A A' N N' ff zz (ds9 A bh)) (hf : ff + 10000000 < 2 ^ 62) (K : ∀ h' A1 A1' N1 N1' ff1 zz1 bh1, EN n t ff zz (nB A).length h' A1 A1' N1 N1' ff1 zz1 bh1 → Q 1 (.int 1) h') : wp SC 584 39 (q + 2) 213 [(2, .ref 602), (6, .int (i32 1))] [.int x, .int (i32 3), .ref 301, .ref 0] h Q := by
  refine x584o (P := (nP A).dropLast ++ [tE 3 0 0 (tp (nP A)) .leaf .leaf]) j z hf (by omega) (by omega) (fun ht => ?_) (fun B W hB ht => ?_) (fun B W hB ht => ?_) K
  · have k0 : 1 ≤ (nP A).length := by
      rcases Nat.lt_or_ge (nP A).length 1 with g | g
      · exact absurd (Or.inl g) ht
      · exact g
    obtain ⟨a0, b0, c0, d0⟩ := dl9 (P := (nP A)) (by omega)
    refine ⟨gd_app (fun e he => LJ_gd j e (b0 _ he)) (gd_E (by omega) (by omega) (fun y => by cases y) (fun y => by cases y) (LJ_gd j _ c0) gd_lf gd_lf), ?_, ?_⟩
    · rw [psum_app]
      have e9 : ∀ e : Tr, psum [e] = pts e := fun e => by simp [psum]
      rw [e9]
      show _ + (1 + _ + _ + _) ≤ _
      have l0 : pts (.leaf : Tr) = 0 := rfl
      omega
    · rw [List.length_append]
      show _ + 1 + 1 = _
      omega
  · have c := cs3 (SC := SC) (A := B) (W := W) (y := i32 0) (x := x) (by rw [hB]; exact ht)
    rw [hB] at c
    rw [List.length_append]
    exact c
  · exact cs3n (by rw [hB]; exact ht)
theorem x584_4 {m : Nat} (hm : m < 4) (j : LJ A A' bh n t) (z : JH h A A' N N' ff zz (ds9 A bh)) (hf : ff + 10000000 < 2 ^ 62) (K : ∀ h' A1 A1' N1 N1' ff1 zz1 bh1, EN n t ff zz (nB A).length h' A1 A1' N1 N1' ff1 zz1 bh1 → Q 1 (.int 1) h') : wp SC 584 39 (q + 2) 213 [(2, .ref 602), (6, .int (i32 2))] [.int (i32 m), .int (i32 4), .ref 301, .ref 0] h Q := by
  refine x584o (P := (nP A).dropLast.dropLast ++ [tE 4 m 0 (tp (nP A).dropLast) (tp (nP A)) .leaf]) j z hf (by omega) (by omega) (fun ht => ?_) (fun B W hB ht => ?_) (fun B W hB ht => ?_) K
  · have k0 : 2 ≤ (nP A).length := by
      rcases Nat.lt_or_ge (nP A).length 2 with g | g
      · exact absurd (Or.inl g) ht
      · exact g
    obtain ⟨a0, b0, c0, d0⟩ := dl9 (P := (nP A)) (by omega)
    obtain ⟨a1, b1, c1, d1⟩ := dl9 (P := (nP A).dropLast) (by omega)
    refine ⟨gd_app (fun e he => LJ_gd j e (b0 _ (b1 _ he))) (gd_E (by omega) (by omega) (fun y => by cases y) (fun y => by cases y) (LJ_gd j _ (b0 _ c1)) (LJ_gd j _ c0) gd_lf), ?_, ?_⟩
    · rw [psum_app]
      have e9 : ∀ e : Tr, psum [e] = pts e := fun e => by simp [psum]
      rw [e9]
      show _ + (1 + _ + _ + _) ≤ _
      have l0 : pts (.leaf : Tr) = 0 := rfl
      omega
    · rw [List.length_append]
      show _ + 1 + 2 = _
      omega
  · have c := cs4 (SC := SC) (A := B) (W := W) (y := i32 0) (n := m) (by omega) (by rw [hB]; exact ht)
    rw [hB] at c
    rw [List.length_append]
    exact c
  · exact cs4n (by omega) (by rw [hB]; exact ht)
theorem x584_5 {x : Int32} (j : LJ A A' bh n t) (z : JH h A A' N N' ff zz (ds9 A bh)) (hf : ff + 10000000 < 2 ^ 62) (K : ∀ h' A1 A1' N1 N1' ff1 zz1 bh1, EN n t ff zz (nB A).length h' A1 A1' N1 N1' ff1 zz1 bh1 → Q 1 (.int 1) h') : wp SC 584 39 (q + 2) 213 [(2, .ref 602), (6, .int (i32 3))] [.int x, .int (i32 5), .ref 301, .ref 0] h Q := by
  refine x584o (P := (nP A).dropLast.dropLast.dropLast ++ [tE 5 0 0 (tp (nP A).dropLast.dropLast) (tp (nP A).dropLast) (tp (nP A))]) j z hf (by omega) (by omega) (fun ht => ?_) (fun B W hB ht => ?_) (fun B W hB ht => ?_) K
  · have k0 : 3 ≤ (nP A).length := by
      rcases Nat.lt_or_ge (nP A).length 3 with g | g
      · exact absurd (Or.inl g) ht
      · exact g
    obtain ⟨a0, b0, c0, d0⟩ := dl9 (P := (nP A)) (by omega)
    obtain ⟨a1, b1, c1, d1⟩ := dl9 (P := (nP A).dropLast) (by omega)
    obtain ⟨a2, b2, c2, d2⟩ := dl9 (P := (nP A).dropLast.dropLast) (by omega)
    refine ⟨gd_app (fun e he => LJ_gd j e (b0 _ (b1 _ (b2 _ he)))) (gd_E (by omega) (by omega) (fun y => by cases y) (fun y => by cases y) (LJ_gd j _ (b0 _ (b1 _ c2))) (LJ_gd j _ (b0 _ c1)) (LJ_gd j _ c0)), ?_, ?_⟩
    · rw [psum_app]
      have e9 : ∀ e : Tr, psum [e] = pts e := fun e => by simp [psum]
      rw [e9]
      show _ + (1 + _ + _ + _) ≤ _
      have l0 : pts (.leaf : Tr) = 0 := rfl
      omega
    · rw [List.length_append]
      show _ + 1 + 3 = _
      omega
  · have c := cs5 (SC := SC) (A := B) (W := W) (y := i32 0) (x := x) (by rw [hB]; exact ht)
    rw [hB] at c
    rw [List.length_append]
    exact c
  · exact cs5n (by rw [hB]; exact ht)
theorem x584_6 {m : Nat} (hm : m < 6) (j : LJ A A' bh n t) (z : JH h A A' N N' ff zz (ds9 A bh)) (hf : ff + 10000000 < 2 ^ 62) (K : ∀ h' A1 A1' N1 N1' ff1 zz1 bh1, EN n t ff zz (nB A).length h' A1 A1' N1 N1' ff1 zz1 bh1 → Q 1 (.int 1) h') : wp SC 584 39 (q + 2) 213 [(2, .ref 602), (6, .int (i32 2))] [.int (i32 m), .int (i32 6), .ref 301, .ref 0] h Q := by
  refine x584o (P := (nP A).dropLast.dropLast ++ [tE 6 m 0 (tp (nP A).dropLast) (tp (nP A)) .leaf]) j z hf (by omega) (by omega) (fun ht => ?_) (fun B W hB ht => ?_) (fun B W hB ht => ?_) K
  · have k0 : 2 ≤ (nP A).length := by
      rcases Nat.lt_or_ge (nP A).length 2 with g | g
      · exact absurd (Or.inl g) ht
      · exact g
    obtain ⟨a0, b0, c0, d0⟩ := dl9 (P := (nP A)) (by omega)
    obtain ⟨a1, b1, c1, d1⟩ := dl9 (P := (nP A).dropLast) (by omega)
    refine ⟨gd_app (fun e he => LJ_gd j e (b0 _ (b1 _ he))) (gd_E (by omega) (by omega) (fun y => by cases y) (fun y => by cases y) (LJ_gd j _ (b0 _ c1)) (LJ_gd j _ c0) gd_lf), ?_, ?_⟩
    · rw [psum_app]
      have e9 : ∀ e : Tr, psum [e] = pts e := fun e => by simp [psum]
      rw [e9]
      show _ + (1 + _ + _ + _) ≤ _
      have l0 : pts (.leaf : Tr) = 0 := rfl
      omega
    · rw [List.length_append]
      show _ + 1 + 2 = _
      omega
  · have c := cs6 (SC := SC) (A := B) (W := W) (y := i32 0) (n := m) (by omega) (by rw [hB]; exact ht)
    rw [hB] at c
    rw [List.length_append]
    exact c
  · exact cs6n (by omega) (by rw [hB]; exact ht)
theorem x584_7 {m : Nat} (hm : m < 6) (j : LJ A A' bh n t) (z : JH h A A' N N' ff zz (ds9 A bh)) (hf : ff + 10000000 < 2 ^ 62) (K : ∀ h' A1 A1' N1 N1' ff1 zz1 bh1, EN n t ff zz (nB A).length h' A1 A1' N1 N1' ff1 zz1 bh1 → Q 1 (.int 1) h') : wp SC 584 39 (q + 2) 213 [(2, .ref 602), (6, .int (i32 1))] [.int (i32 m), .int (i32 7), .ref 301, .ref 0] h Q := by
  refine x584o (P := (nP A).dropLast ++ [tE 7 m 0 .leaf (tp (nP A)) .leaf]) j z hf (by omega) (by omega) (fun ht => ?_) (fun B W hB ht => ?_) (fun B W hB ht => ?_) K
  · have k0 : 1 ≤ (nP A).length := by
      rcases Nat.lt_or_ge (nP A).length 1 with g | g
      · exact absurd (Or.inl g) ht
      · exact g
    obtain ⟨a0, b0, c0, d0⟩ := dl9 (P := (nP A)) (by omega)
    refine ⟨gd_app (fun e he => LJ_gd j e (b0 _ he)) (gd_E (by omega) (by omega) (fun y => by cases y) (fun y => by cases y) gd_lf (LJ_gd j _ c0) gd_lf), ?_, ?_⟩
    · rw [psum_app]
      have e9 : ∀ e : Tr, psum [e] = pts e := fun e => by simp [psum]
      rw [e9]
      show _ + (1 + _ + _ + _) ≤ _
      have l0 : pts (.leaf : Tr) = 0 := rfl
      omega
    · rw [List.length_append]
      show _ + 1 + 1 = _
      omega
  · have c := cs7 (SC := SC) (A := B) (W := W) (y := i32 0) (n := m) (by omega) (by rw [hB]; exact ht)
    rw [hB] at c
    rw [List.length_append]
    exact c
  · exact cs7n (by omega) (by rw [hB]; exact ht)
theorem x584_8 {x : Int32} (j : LJ A A' bh n t) (z : JH h A A' N N' ff zz (ds9 A bh)) (hf : ff + 10000000 < 2 ^ 62) (K : ∀ h' A1 A1' N1 N1' ff1 zz1 bh1, EN n t ff zz (nB A).length h' A1 A1' N1 N1' ff1 zz1 bh1 → Q 1 (.int 1) h') : wp SC 584 39 (q + 2) 213 [(2, .ref 602), (6, .int (i32 2))] [.int x, .int (i32 8), .ref 301, .ref 0] h Q := by
  refine x584o (P := (nP A).dropLast.dropLast ++ [tE 8 0 0 (tp (nP A).dropLast) (tp (nP A)) .leaf]) j z hf (by omega) (by omega) (fun ht => ?_) (fun B W hB ht => ?_) (fun B W hB ht => ?_) K
  · have k0 : 2 ≤ (nP A).length := by
      rcases Nat.lt_or_ge (nP A).length 2 with g | g
      · exact absurd (Or.inl g) ht
      · exact g
    obtain ⟨a0, b0, c0, d0⟩ := dl9 (P := (nP A)) (by omega)
    obtain ⟨a1, b1, c1, d1⟩ := dl9 (P := (nP A).dropLast) (by omega)
    refine ⟨gd_app (fun e he => LJ_gd j e (b0 _ (b1 _ he))) (gd_E (by omega) (by omega) (fun y => by cases y) (fun y => by cases y) (LJ_gd j _ (b0 _ c1)) (LJ_gd j _ c0) gd_lf), ?_, ?_⟩
    · rw [psum_app]
      have e9 : ∀ e : Tr, psum [e] = pts e := fun e => by simp [psum]
      rw [e9]
      show _ + (1 + _ + _ + _) ≤ _
      have l0 : pts (.leaf : Tr) = 0 := rfl
      omega
    · rw [List.length_append]
      show _ + 1 + 2 = _
      omega
  · have c := cs8 (SC := SC) (A := B) (W := W) (y := i32 0) (x := x) (by rw [hB]; exact ht)
    rw [hB] at c
    rw [List.length_append]
    exact c
  · exact cs8n (by rw [hB]; exact ht)
theorem c584 {x : Int32} (j : LJ A A' bh n t) (z : JH h A A' N N' ff zz (ds9 A bh)) (hf : ff + 10000000 < 2 ^ 62) (K : ∀ h' A1 A1' N1 N1' ff1 zz1 bh1, EN n t ff zz (nB A).length h' A1 A1' N1 N1' ff1 zz1 bh1 → Q 1 (.int 1) h') : wp SC 584 39 (q + 8) 0 [(0, .ref 0), (1, .ref 301), (2, .ref 602), (3, .int x)] [] h Q := by
  refine B584_0 (c577 (by omega) (by omega) (fun m hm => ret1 (B584_6 (fun _ => ?_) (fun g => B584_15 (fun _ => B584_41 (fun _ => ?_) (fun _ => ?_)) (fun _ => ?_)))))
  · refine B584_141 (c577 (by omega) (by omega) (fun m6 hm6 => ret1 ?_))
    have at181 : ∀ least w : Nat, w < 9 → 3 ≤ w → (∀ s, q + 2 ≤ s → ∀ m, (m < if w = 4 then 4 else 6) → wp SC 584 39 s 213 [(2, .ref 602), (6, .int (i32 least))] [.int (i32 m), .int (i32 w), .ref 301, .ref 0] h Q) → wp SC 584 39 (q + 8) 181 [(0, .ref 0), (1, .ref 301), (2, .ref 602), (3, .int x), (5, .int (i32 w))] [.int (i32 least)] h Q := fun least w hw hw3 k => by
      refine B584_181 (fun g => B584_204 (c577 (by omega) (by omega) (fun m hm => ret1 (k _ (by omega) m (by rw [if_neg (fun y => g (by rw [y]))]; exact hm))))) (fun g => B584_193 (c577 (by omega) (by omega) (fun m hm => ret1 (B584_201 (k _ (by omega) m ?_)))))
      rw [if_pos ((i3_eq (by omega) (by omega)).mp g)]
      exact hm
    refine B584_150 (fun g => B584_163 (fun g3 => B584_176 ?_) (fun g3 => B584_169 (fun g7 => B584_180 ?_) (fun g7 => B584_176 ?_))) (fun g => B584_159 ?_)
    all_goals rw [i3_add] at g ⊢
    · rw [i3_add] at g3
      have e := (i3_eq (by omega) (by omega)).mp g3
      rw [e]
      exact at181 1 3 (by omega) (by omega) (fun s hs m hm => wp_up (Nat.le_refl _) hs (x584_3 j z hf K))
    · rw [i3_add] at g3 g7
      have h5 : ¬ 3 + m6 = 5 := fun y => g (by rw [y])
      have h3 : ¬ 3 + m6 = 3 := fun y => g3 (by rw [y])
      have h7 : ¬ 3 + m6 = 7 := fun y => g7 (by rw [y])
      rcases (show 3 + m6 = 4 ∨ 3 + m6 = 6 ∨ 3 + m6 = 8 by omega) with e | e | e <;> rw [e]
      · exact at181 2 4 (by omega) (by omega) (fun s hs m hm => wp_up (Nat.le_refl _) hs (x584_4 (by rw [if_pos rfl] at hm; exact hm) j z hf K))
      · exact at181 2 6 (by omega) (by omega) (fun s hs m hm => wp_up (Nat.le_refl _) hs (x584_6 (by rw [if_neg (by omega)] at hm; exact hm) j z hf K))
      · exact at181 2 8 (by omega) (by omega) (fun s hs m hm => wp_up (Nat.le_refl _) hs (x584_8 j z hf K))
    · rw [i3_add] at g7
      have e := (i3_eq (by omega) (by omega)).mp g7
      rw [e]
      exact at181 1 7 (by omega) (by omega) (fun s hs m hm => wp_up (Nat.le_refl _) hs (x584_7 (by rw [if_neg (by omega)] at hm; exact hm) j z hf K))
    · have e := (i3_eq (by omega) (by omega)).mp g
      rw [e]
      exact at181 3 5 (by omega) (by omega) (fun s hs m hm => wp_up (Nat.le_refl _) hs (x584_5 j z hf K))
  · exact B584_66 (c577 (by omega) (by omega) (fun m hm => ret1 (L584_76 (s1 := 0 + 2 * 1) (s2 := q) (by omega) (x584p (fun _ _ _ y => y) (e0 := tE 2 m 0 .leaf .leaf .leaf) j z hf (gd_E (by omega) (by omega) (fun y => by cases y) (fun _ => hm) gd_lf gd_lf gd_lf) rfl (fun B W hB => cs2 hm hB) (fun B W hB => cs2n hm hB) K))))
  · exact B584_48 (c577 (by omega) (by omega) (fun m hm => ret1 (L584_59 (s1 := 0 + 2 * 1) (s2 := q) (by omega) (x584p (fun _ _ _ y => B584_63 y) (e0 := tE 1 m 0 .leaf .leaf .leaf) j z hf (gd_E (by omega) (by omega) (fun _ => hm) (fun y => by cases y) gd_lf gd_lf gd_lf) rfl (fun B W hB => cs1 (by omega) hB) (fun B W hB => cs1n (by omega) hB) K))))
  · exact B584_21 (c577 (by omega) (by omega) (fun m hm => ret1 (L584_32 (s1 := 0 + 2 * 1) (s2 := q) (by omega) (x584p (fun _ _ _ y => B584_38 y) (e0 := tE 0 0 (i32 m - i32 2).toInt64 .leaf .leaf .leaf) j z hf (gd_E (by omega) (by omega) (fun y => by cases y) (fun y => by cases y) gd_lf gd_lf gd_lf) rfl (fun B W hB => cs0 hB) (fun B W hB => cs0n hB) K))))
end EX
