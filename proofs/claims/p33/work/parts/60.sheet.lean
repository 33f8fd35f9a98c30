/-! Sheet: what it reads. -/
def shc (h : re_H) (sh vb lb m ra st0 : Nat) : Prop := re_hg h sh = some (8, [.ref vb, .ref lb, .ref m, .ref ra, .int (i32 st0)])
/-- all results of all sheets -/
def rall (h : re_H) (E : Ev) (ra : Nat) (RR : Nat → Rs) : Prop := re_hg h ra = some (105, lst 24 (fun i => .ref (ra + 1 + 10 * i))) ∧ ∀ i, i < 24 → rs h E (ra + 1 + 10 * i) (RR i)
theorem lk_at {h : re_H} {l v : Nat} {V : Vr} (c : lk h l v V) {j i : Nat} (h1 : 1 ≤ j ∧ ¬ j = 2) (h6 : j ≤ 6) (hi : i < lsz j) : nb_ar h (l + j) 100 (i32 i) (.int (lkF V j i)) := by
  obtain ⟨F, c1, c2⟩ := c
  rw [← c2 j i h1.1 h6 hi (fun y => absurd y h1.2)]
  exact lkr_at c1 h1.1 h6 rfl hi
theorem lk_a2 {h : re_H} {l v : Nat} {V : Vr} (c : lk h l v V) (hv : nte V) {i : Nat} (hi : i < lsz 2) : nb_ar h (l + 2) 100 (i32 i) (.int (lkF V 2 i)) := by
  obtain ⟨F, c1, c2⟩ := c
  rw [← c2 2 i (by omega) (by omega) hi (fun _ => hv)]
  exact lkr_at c1 (by omega) (by omega) rfl hi
theorem lk_c {h : re_H} {l v : Nat} {V : Vr} (c : lk h l v V) : re_hg h l = some (3, [.ref v, .ref (l + 1), .ref (l + 2), .ref (l + 3), .ref (l + 4), .ref (l + 5), .ref (l + 6)]) := by
  obtain ⟨F, c1, c2⟩ := c
  exact c1.1
theorem wr_le (V : Vr) (c : Nat) : wr V c ≤ 3 := by
  unfold wr
  split
  · omega
  split
  · omega
  split <;> omega
/-- the cell that keeps a name -/
def src (V : Vr) (RR : Nat → Rs) (st0 nm : Nat) : Option Nat :=
  match ow V nm 12 with
  | none => none
  | some c => if wr V c = 0 ∧ (RR (st0 + c)).1 = 0 then some c else none
def vin (V : Vr) (RR : Nat → Rs) (st0 nm : Nat) : Option Tr := (src V RR st0 nm).bind (fun c => lkp nm (rK (RR (st0 + c))))
def srv (V : Vr) (RR : Nat → Rs) (st0 ra nm : Nat) (v : Value) : Prop := (src V RR st0 nm = none ∧ v = .null) ∨ ∃ c, src V RR st0 nm = some c ∧ c < 12 ∧ v = .ref (ra + 1 + 10 * (st0 + c))
theorem srv_R {V : Vr} {RR : Nat → Rs} {st0 ra nm : Nat} {v : Value} (y : srv V RR st0 ra nm v) : re_R v := y.elim (fun g => Or.inl g.2) (fun ⟨c, _, _, g⟩ => Or.inr ⟨_, g⟩)
theorem rs_0 {h : re_H} {E : Ev} {r : Nat} {R : Rs} (z : rs h E r R) : re_hg h r = some (rsc r R.1 R.2.1 (rK R).length (rS R)) := by
  obtain ⟨ns, nms, fs, ms, z1, -⟩ := z
  exact z1
/-- what a result keeps of a name has its number -/
theorem rs_st {h : re_H} {E : Ev} {r nm : Nat} {R : Rs} (z : rs h E r R) : ∀ t, lkp nm (rK R) = some t → isC t = true → stp t < E.2.1 := by
  intro t ht hc
  obtain ⟨ns, nms, fs, ms, z1, z2, z3, z4, z5, -⟩ := z
  cases hp : pof nm (rK R) with
  | none => rw [lkp_none hp] at ht; cases ht
  | some i =>
    obtain ⟨v, nu, f, y1, y2, y3, y4, y5⟩ := kpt_at z5 hp
    rw [ht] at y1
    cases y1
    rcases vl_cases y4 with ⟨-, rfl⟩ | ⟨st', rid', code, env', rfl, zf⟩
    · cases hc
    · obtain ⟨x, c0, nm', c4, c5, c6, c7, -, -, -, -, -, hst, -⟩ := nd_C.mp zf
      exact hst
section SH
variable {SC : List Value} {d q : Nat} {h : re_H} {Q : Nat → Value → re_H → Prop} {sh vb lb m ra st0 : Nat} {V : Vr} {RR : Nat → Rs} {E : Ev}
theorem c515 {c : Nat} (z : shc h sh vb lb m ra st0) (za : rall h E ra RR) (hc : st0 + c < 24) (K : Q 3 (.ref (ra + 1 + 10 * (st0 + c))) h) : wp SC 515 d q 0 [(0, .ref sh), (1, .int (i32 c))] [] h Q :=
  B515_0 ⟨_, z, rfl⟩ ⟨_, z, rfl⟩ ⟨_, st0 + c, za.1, i3_add _ _, by omega, lst_get _ hc⟩ K
theorem c516 {nm : Nat} (hnm : nm < 16) (hv : nte V) (h0 : st0 + 12 ≤ 24) (z : shc h sh vb lb m ra st0) (zl : lk h lb vb V) (za : rall h E ra RR) (K : ∀ v, srv V RR st0 ra nm v → Q 3 v h) : wp SC 516 (d + 1) q 0 [(0, .ref sh), (1, .int (i32 nm))] [] h Q := by
  have a2 := lk_a2 zl hv (i := nm) hnm
  have f2 : lkF V 2 nm = oI (ow V nm 12) := rfl
  rw [f2] at a2
  cases ho : ow V nm 12 with
  | none =>
    rw [ho] at a2
    have s0 : src V RR st0 nm = none := by unfold src; rw [ho]
    exact B516_0 ⟨_, z, rfl⟩ ⟨_, lk_c zl, rfl⟩ a2 (fun _ => B516_38 (K _ (Or.inl ⟨s0, rfl⟩))) (fun g => absurd rfl g)
  | some c =>
    rw [ho] at a2
    have hc := ow_lt ho
    have s0 : src V RR st0 nm = if wr V c = 0 ∧ (RR (st0 + c)).1 = 0 then some c else none := by unfold src; rw [ho]
    refine B516_0 ⟨_, z, rfl⟩ ⟨_, lk_c zl, rfl⟩ a2 (fun g => ?_) (fun _ => ?_)
    · have g' := congrArg Int32.toInt (show i32 c = -1 from g)
      rw [i3_toInt (by omega), show (-1 : Int32).toInt = -1 by decide] at g'
      omega
    have a6 := lk_at zl (j := 6) (i := c) (by omega) (by omega) hc
    have f6 : lkF V 6 c = i32 (wr V c) := rfl
    rw [f6] at a6
    have hw := wr_le V c
    refine B516_15 ⟨_, z, rfl⟩ ⟨_, lk_c zl, rfl⟩ a6 (fun g => B516_38 (K _ (Or.inl ⟨?_, rfl⟩))) (fun g => ?_)
    · rw [s0, if_neg (fun y => g ((i3_zero (by omega)).mpr y.1))]
    have w0 : wr V c = 0 := (i3_zero (by omega)).mp g
    have zr := rs_0 (za.2 (st0 + c) (by omega))
    refine B516_27 z rfl (c515 z za (by omega) (ret3 (B516_32 ⟨_, zr, rfl⟩ (fun g2 => ?_) (fun g2 => B516_38 (K _ (Or.inl ⟨?_, rfl⟩))))))
    · exact B516_40 z rfl (c515 z za (by omega) (ret3 (B516_45 (K _ (Or.inr ⟨c, by rw [s0, if_pos ⟨w0, g2⟩], hc, rfl⟩)))))
    · rw [s0, if_neg (fun y => g2 y.2)]
theorem c517w {nm : Nat} {v : Value} (hnm : nm < 16) (h0 : st0 + 12 ≤ 24) (za : rall h E ra RR) (y : srv V RR st0 ra nm v) (K : Q 1 (.int (i32 (knd (vin V RR st0 nm)))) h) : wp SC 517 (d + 2) q 0 [(1, v), (2, .int (i32 nm))] [] h Q := by
  rcases y with ⟨y1, rfl⟩ | ⟨c, y1, y2, rfl⟩
  · have e : vin V RR st0 nm = none := by unfold vin; rw [y1]; rfl
    rw [e] at K
    exact B517_0 (Or.inl rfl) (fun _ => B517_4 (B517_13 K)) (fun b hb => by cases hb)
  · have e : vin V RR st0 nm = lkp nm (rK (RR (st0 + c))) := by unfold vin; rw [y1]; rfl
    rw [e] at K
    have zr := za.2 (st0 + c) (by omega)
    refine B517_0 (Or.inr ⟨_, rfl⟩) (fun hb => by cases hb) (fun b hb => ?_)
    cases hb
    exact B517_8 (rs_0 zr) rfl (c322 hnm zr (ret1 (B517_13 K)))
theorem c517 {nm : Nat} {v : Value} (hnm : nm < 16) (h0 : st0 + 12 ≤ 24) (za : rall h E ra RR) (y : srv V RR st0 ra nm v) (K : Q 1 (.int (i32 (knd (vin V RR st0 nm)))) h) : wp SC 517 (d + 2) q 0 [(0, .ref sh), (1, v), (2, .int (i32 nm))] [] h Q :=
  wp_weak (re_sb_at rfl (re_sb_at rfl (re_sb_nil _))) (c517w hnm h0 za y K)
theorem c518w {nm : Nat} {v : Value} (hnm : nm < 16) (h0 : st0 + 12 ≤ 24) (za : rall h E ra RR) (y : srv V RR st0 ra nm v) (K : Q 2 (.long (mrk E (vin V RR st0 nm))) h) : wp SC 518 (d + 2) q 0 [(1, v), (2, .int (i32 nm))] [] h Q := by
  rcases y with ⟨y1, rfl⟩ | ⟨c, y1, y2, rfl⟩
  · have e : vin V RR st0 nm = none := by unfold vin; rw [y1]; rfl
    rw [e] at K
    exact B518_0 (Or.inl rfl) (fun _ => B518_4 (B518_13 K)) (fun b hb => by cases hb)
  · have e : vin V RR st0 nm = lkp nm (rK (RR (st0 + c))) := by unfold vin; rw [y1]; rfl
    rw [e] at K
    have zr := za.2 (st0 + c) (by omega)
    refine B518_0 (Or.inr ⟨_, rfl⟩) (fun hb => by cases hb) (fun b hb => ?_)
    cases hb
    exact B518_8 (rs_0 zr) rfl (c324 hnm zr (ret2 (B518_13 K)))
theorem c518 {nm : Nat} {v : Value} (hnm : nm < 16) (h0 : st0 + 12 ≤ 24) (za : rall h E ra RR) (y : srv V RR st0 ra nm v) (K : Q 2 (.long (mrk E (vin V RR st0 nm))) h) : wp SC 518 (d + 2) q 0 [(0, .ref sh), (1, v), (2, .int (i32 nm))] [] h Q :=
  wp_weak (re_sb_at rfl (re_sb_at rfl (re_sb_nil _))) (c518w hnm h0 za y K)
theorem vin_st {nm : Nat} (h0 : st0 + 12 ≤ 24) (za : rall h E ra RR) : ∀ t, vin V RR st0 nm = some t → isC t = true → stp t < E.2.1 := by
  intro t ht hc
  unfold vin src at ht
  cases ho : ow V nm 12 with
  | none => rw [ho] at ht; cases ht
  | some c =>
    rw [ho] at ht
    simp only at ht
    split at ht
    · exact rs_st (za.2 (st0 + c) (by have := ow_lt ho; omega)) t ht hc
    · cases ht
end SH
