/-! The law's start, behind the two constructors. -/
def R00 : Rs := (-1, 0, [], [], fun _ => 0, 0, fun _ => none)
def A00 (B T : Nat) : Nb := ([], fun _ => (false, []), 0, fun _ => 0, 0, 0, [], (fun _ => R00, B, T))
theorem A00_inv {B T : Nat} (hT : 0 < T) : inv (A00 B T) 0 := by
  have hV : vnt (nV (A00 B T)) := fun _ _ _ => rfl
  refine ⟨⟨⟨hV, fun c hc => ⟨fun q y => (by cases y), List.nodup_nil, Nat.zero_le _⟩, fun c hc => rfl⟩, fun U y => (by cases y), fun e y => (by cases y), fun k hk => ⟨0, by decide, rfl⟩, ⟨0, by decide, rfl⟩, ⟨fun _ => .leaf, fun _ => (fun _ => 0, 0), fun i hi => ⟨Or.inl ⟨Or.inl rfl, rfl⟩, fun n v y => (by cases y)⟩⟩, fun y => (by have y : (0 : Nat) = 2 := y; omega), Nat.zero_le _, Nat.zero_le _, Nat.zero_le _, hT, fun i hi => Nat.zero_le _, fun c hc _ => ⟨rfl, rfl⟩⟩, fun _ c hc => ns_nt hV hc rfl⟩
theorem A00_sim (B B' T T' : Nat) : sim (A00 B T) (A00 B' T') := ⟨rfl, rfl, rfl, rfl, rfl, rfl, rfl, fun _ _ => False, ⟨fun _ _ _ y => absurd y id, fun _ _ _ y => absurd y id⟩, fun _ _ y => absurd y id, fun i hi => ⟨rfl, rfl, trivial, rfl, fun _ _ => rfl, rfl, fun n hn => Or.inl ⟨rfl, rfl⟩⟩⟩
theorem A00_ano (B T : Nat) : ano (A00 B T) 0 := ⟨[], Nat.le_refl _, fun y => (by cases y), fun c hc n v y => (by cases y)⟩
theorem A00_WT (B T : Nat) : WT (A00 B T) 0 := ⟨fun _ => 0, by show wsm (fun _ => 0) 12 + psum [] ≤ 0; decide, fun c hc => Nat.le_refl _, fun U y => (by cases y)⟩
def CI (A A' : Nb) (c : Nat) : Prop := sim A A' ∧ inv A 0 ∧ inv A' 0 ∧ ano A 0 ∧ ano A' 0 ∧ nM A = c ∧ WT A 0 ∧ nO A = 0 ∧ ((nY A).2.2 ≤ 1 + 12 * c ∧ (nY A').2.2 ≤ 1 + 12 * c) ∧ nP A = [] ∧ nB A = []
set_option maxRecDepth 20000 in
theorem spr_80 : spr 80 = 4999 := by decide
section ST
variable {SC : List Value} {h : re_H} {Q : Nat → Value → re_H → Prop}
theorem CI_rm {A A' : Nb} {c : Nat} (j : CI A A' c) (hc : c ≤ 3) : rmL (nY A).1 Wo ∧ rmL (nY A').1 Wt := by
  obtain ⟨j1, j2, j3, j4, j5, j6, j7, j8, -⟩ := j
  have e3 : nM A = nM A' := j1.2.2.1
  have e6 : nO A = nO A' := j1.2.2.2.2.2.1
  obtain ⟨L, m1, m2, m3⟩ := pot_L j2.1 (dpo_pot j2.1 (dpo_0 (n := 0) j2 j8 (by omega))) (by decide)
  obtain ⟨L', m1', m2', m3'⟩ := qpo_L (n := 0) j3.1 (Or.inl (dpo_pot j3.1 (dpo_0 (n := 0) j3 (e6.symm.trans j8) (by omega)))) (by decide)
  obtain ⟨L2, l1, l2, l3⟩ := j4
  obtain ⟨L2', l1', l2', l3'⟩ := j5
  exact ⟨rm_of m2 m3 l2 l3 (by unfold Wo; omega), rm_of m2' m3' l2' l3' (by unfold Wt; omega)⟩
theorem CI_s {A A' : Nb} {c : Nat} (j : CI A A' c) (hc : c < 3) : CI (aS (aCell A) (cao (nO A))) (aS (aCell A') (cao (nO A'))) (c + 1) := by
  obtain ⟨j1, j2, j3, j4, j5, j6, j7, j8, ⟨j9, j10⟩, j11, j12⟩ := j
  obtain ⟨Y', rfl, sy⟩ := sim_tu j1
  have i1 := inv1_cell j2.1 (show nM A < 12 by omega)
  have i1' : inv1 (aCell (wY A Y')) 0 := inv1_cell (A := wY A Y') j3.1 (show nM A < 12 by omega)
  obtain ⟨c1, c2, c3⟩ := chg_inv i1
  obtain ⟨d1, d2, d3⟩ := chg_inv i1'
  have c3 : (nY (aS (aCell A) (cao (nO A)))).2.2 ≤ (nY A).2.2 + 12 := c3
  have d3 : (nY (aS (aCell (wY A Y')) (cao (nO A)))).2.2 ≤ Y'.2.2 + 12 := d3
  have j10 : Y'.2.2 ≤ 1 + 12 * c := j10
  refine ⟨(sim_aS (A := aCell A) (A' := aCell (wY A Y')) i1 ⟨rfl, rfl, rfl, rfl, rfl, rfl, rfl, sy⟩).1, c1, d1, ano_up j4 c2, ano_up j5 d2, ?_, ?_, j8, ⟨Nat.le_trans c3 (by omega), Nat.le_trans d3 (by omega)⟩, j11, j12⟩
  · show nM A + 1 = c + 1
    rw [j6]
  · exact WT_V (A1 := aS (aCell A) (cao (nO A))) j7 rfl (fun x hx => Or.inl (by
      show cps ((nV (aCell A)) x).2 ≤ _
      rw [cell_v2 j2.1 x]
      exact Nat.le_refl _)) (fun U hU => Or.inl hU)
theorem x588s (hl : SC.length < 2147483648) (hS : ∀ i, i < SC.length → ∃ v : Int32, SC[i]? = some (.int v)) {B B' : Nat} (z : NB h 0 (A00 B 1) [] 0 Wo) (z' : NB h 301 (A00 B' 1) [] 0 Wt) (e6 : re_hg h 602 = some (100, [.int (i32 0), .int (i32 0), .int (i32 0), .int (i32 0), .int (i32 0)])) (h1 : h.1 = 603) (K : ∀ h' A A' N N' ff zz ds, JH h' A A' N N' ff zz ds → zz ≤ 6792 → Q 1 (.int 1) h') : wp SC 588 40 (5044) 19 [(0, .retAddr 2), (1, .ref 0), (2, .ref 301)] [.ref 602] h Q := by
  have z0 : JH h (A00 B 1) (A00 B' 1) [] [] 0 0 (ds9 (A00 B 1) 0) := ⟨z, z', fun x y => (by cases y), e6, by rw [h1]; exact Nat.le_refl _⟩
  have e5 : spr 80 = 4999 := spr_80
  refine K588_19 (s1 := 0 + 25 + 14 * 1) (s2 := 4999 + 6) (by omega) (c587 (q := 0) (A00_inv (by decide)).1 (by decide) z (by decide) (fun h1 N1 f1 hf1 n1 o1 => ret1 ?_))
  obtain ⟨f2, hf2⟩ : ∃ f, f = 0 + 7200000 := ⟨_, rfl⟩
  have z1 := JH_o (ff' := f2) (Nat.zero_le _) z0 (NB_up n1 (by omega)) o1
  have loop : ∀ (j c : Nat) (h : re_H) (A A' : Nb) (N N' : List Nat) (ff : Nat), c + j = 3 → CI A A' c → JH h A A' N N' ff 0 (ds9 A 0) → ff ≤ f2 + 72000 * c → wp SC 588 40 (4999 + 2 * j) 30 [(0, .retAddr 2), (1, .ref 0), (2, .ref 301), (3, .ref 602), (4, .int 1), (5, .int (i32 c))] [] h Q := by
    intro j
    induction j with
    | zero =>
      intro c h A A' N N' ff hc ci zz hff
      cases (show c = 3 by omega)
      refine M588_30 (fun _ => M588_77 ?_) (fun g => absurd ((i3_lt (by omega) (by omega)).mp g) (by omega))
      obtain ⟨j1, j2, j3, ⟨L, l1, l2, l3⟩, j5, j6, j7, j8, ⟨j9, j10⟩, j11, j12⟩ := ci
      have e3 : nM A = nM A' := j1.2.2.1
      have e9 : nO A = nO A' := j1.2.2.2.2.2.1
      rw [show 4999 + 2 * 0 = spr 80 by rw [e5]]
      refine x588l (z0 := 0) (f0 := f2 + 300000) (t0 := 100) hl hS (by omega) (by omega) (fun h' A A' N N' ff zz ds y hz => K h' A A' N N' ff zz ds y (Nat.le_trans hz (by decide))) 80 0 h A A' 0 N N' ff 0 (by omega) ⟨j1, ⟨j2, dpo_pot j2.1 (dpo_0 (n := 0) j2 j8 (by omega)), ⟨L, Nat.le_trans l1 (by omega), l2, l3⟩, by omega, by omega⟩, ⟨j3, dpo_pot j3.1 (dpo_0 (n := 0) j3 (e9.symm.trans j8) (by omega)), j5, by omega, by omega⟩, by omega, j7⟩ zz (by omega) (Nat.zero_le _)
    | succ j ih =>
      intro c h A A' N N' ff hc ci zz hff
      obtain ⟨r1, r2⟩ := CI_rm ci (by omega)
      have cs := CI_s ci (by omega)
      obtain ⟨j1, j2, j3, j4, j5, j6, j7, j8, j9, j11, j12⟩ := ci
      have e3 : nM A = nM A' := j1.2.2.1
      refine M588_30 (fun g => absurd ((i3_lt (by omega) (by omega)).mpr (by omega)) g) (fun _ => M588_36 (fun g => absurd g (by decide)) (fun _ => ?_))
      have ca := cs9 (SC := SC) (A := A) (W := Wo) (x := i32 0) (y := i32 0) r1 (by decide) (by omega)
      have cb := cs9 (SC := SC) (A := A') (W := Wt) (x := i32 0) (y := i32 0) r2 (by decide) (by omega)
      rw [← e3] at cb
      rw [j6] at ca cb
      refine K588_41 (s1 := 0 + 2 * 1) (s2 := 4999 + 2 * j) (by omega) (wp_up (d := 38) (by omega) (Nat.le_refl _) (both9 zz (by omega) ca cb (fun h1 N1 N1' z1 => ret2 (M588_50 (fun g => absurd rfl g) (fun _ => M588_57 ?_)))))
      refine M588_62 (xe1 := i32 (nM A)) (i := 1) (row_ar (i := 1) z1.2.2.2.1 (by omega) rfl) z1.2.2.2.1 rfl (by omega) (by show 1 < 5; omega) (M588_71 ?_)
      have z2 := JH_w (ds1 := (ds9 A 0).set 1 (.int (i32 (nM A) + i32 1))) z1
      have e : (ds9 A 0).set 1 (.int (i32 (nM A) + i32 1)) = ds9 (aS (aCell A) (cao (nO A))) 0 := by
        rw [i3_add]
        rfl
      rw [e] at z2 ⊢
      rw [i3_add]
      exact ih (c + 1) _ _ _ N1 N1' _ (by omega) cs z2 (by omega)
  refine M588_25 (loop 3 0 h1 (A00 B 1) (A00 B' 1) N1 [] f2 (by omega) ⟨A00_sim B B' 1 1, A00_inv (by decide), A00_inv (by decide), A00_ano B 1, A00_ano B' 1, rfl, A00_WT B 1, rfl, ⟨by show 1 ≤ 1 + 12 * 0; decide, by show 1 ≤ 1 + 12 * 0; decide⟩, rfl, rfl⟩ z1 (by omega))
end ST
