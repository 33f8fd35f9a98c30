/-! Calls that change the code, for both. -/
theorem cfr_le (nm : Nat) : ∀ e : Tr, cfr nm e ≤ pts e
  | .leaf => Nat.le_refl _
  | .inner _ _ _ _ .leaf => Nat.zero_le _
  | .inner k l u a (.inner k2 l2 u2 b c) => by
    have ia := cfr_le nm a
    have ib' := cfr_le nm b
    have ic := cfr_le nm c
    unfold cfr
    show _ ≤ 1 + pts a + pts b + pts c
    split
    · split
      · omega
      · split <;> omega
    · omega
theorem cxn_le (nm : Nat) (C : Cd) : cxn nm C ≤ cps C + C.length := by
  have key : ∀ (C : Cd) (m : Nat), C.foldl (fun m q => m + (if q.1 = nm then 1 else 0) + cfr nm q.2) m ≤ m + cps C + C.length := by
    intro C
    induction C with
    | nil => intro m; show m ≤ m + 0 + 0; omega
    | cons q r ih =>
      intro m
      have h1 := ih (m + (if q.1 = nm then 1 else 0) + cfr nm q.2)
      have h2 := cfr_le nm q.2
      have h3 : (if q.1 = nm then 1 else 0) ≤ 1 := by split <;> omega
      have h4 : cps (q :: r) = pts q.2 + cps r := rfl
      rw [h4, List.length_cons]
      show List.foldl _ (m + (if q.1 = nm then 1 else 0) + cfr nm q.2) r ≤ _
      omega
  have := key C 0
  unfold cxn
  omega
theorem vxn_le (nm : Nat) {V : Vr} : ∀ k, (∀ i, i < k → (V i).2.length ≤ 4) → vxn nm V k ≤ vps V k + 4 * k
  | 0, _ => Nat.le_refl _
  | k + 1, h => by
    have h1 := vxn_le nm k (fun i hi => h i (by omega))
    have h2 := cxn_le nm (V k).2
    have h3 := h k (by omega)
    show vxn nm V k + cxn nm (V k).2 ≤ vps V k + cps (V k).2 + 4 * (k + 1)
    omega
theorem rds_64 {C : Cd} (h : ∀ q, q ∈ C → fre q.2 < 64) : rds C < 64 := by
  have key : ∀ (C : Cd) (m : Nat × Nat), (∀ q, q ∈ C → fre q.2 < 64) → m.1 < 64 → (C.foldl (fun (m : Nat × Nat) q => (m.1 ||| nb_wo (fre q.2) m.2, m.2 ||| 2 ^ q.1)) m).1 < 64 := by
    intro C
    induction C with
    | nil => intro m _ hm; exact hm
    | cons q r ih =>
      intro m hq hm
      refine ih _ (fun x hx => hq x (List.mem_cons_of_mem _ hx)) (Nat.or_lt_two_pow (n := 6) hm (lt_of_bits (n := 6) (fun k y => ?_)))
      rw [nb_wo_bit, Bool.and_eq_true] at y
      exact bits_lt (n := 6) (hq q List.mem_cons_self) k y.1
  exact key C (0, 0) h (by decide)
theorem pc_l9 {a c : Nat} (hc : c < 12) (hb : a.testBit c = false) : pc12 a < 12 := by
  have h : ((List.range 12).filter (fun i => a.testBit i)).length < (List.range 12).length := List.length_filter_lt_length_iff_exists.mpr ⟨c, List.mem_range.mpr hc, by show ¬ a.testBit c = true; rw [hb]; decide⟩
  rw [List.length_range] at h
  exact h
theorem sum_set {f : Nat × Tr → Nat} {x : Nat × Tr} : ∀ {C : Cd} {i : Nat}, ((C.set i x).map f).sum ≤ (C.map f).sum + f x
  | [], i => by show 0 ≤ _; omega
  | q :: r, 0 => by
    show f x + (r.map f).sum ≤ f q + (r.map f).sum + f x
    omega
  | q :: r, i + 1 => by
    have := sum_set (f := f) (x := x) (C := r) (i := i)
    show f q + ((r.set i x).map f).sum ≤ f q + (r.map f).sum + f x
    omega
theorem sum_era {f : Nat × Tr → Nat} : ∀ {C : Cd} {i : Nat}, ((C.eraseIdx i).map f).sum ≤ (C.map f).sum
  | [], i => Nat.zero_le _
  | q :: r, 0 => by
    show (r.map f).sum ≤ f q + (r.map f).sum
    omega
  | q :: r, i + 1 => by
    have := sum_era (f := f) (C := r) (i := i)
    show f q + ((r.eraseIdx i).map f).sum ≤ f q + (r.map f).sum
    omega
theorem cps_put {C : Cd} {nm : Nat} {e : Tr} : cps (cput C nm e) ≤ cps C + pts e := by
  unfold cput
  split
  · exact sum_set (f := fun q : Nat × Tr => pts q.2) (x := (nm, e))
  · unfold cps
    rw [List.map_append, List.sum_append]
    show _ + (pts e + 0) ≤ _
    omega
theorem cps_xg (nm ot : Nat) : ∀ C : Cd, cps (cxg nm ot C) ≤ cps C
  | [] => Nat.le_refl _
  | q :: r => by
    have h1 := cps_xg nm ot r
    have h2 := (pts_xgd nm ot q.2).1
    show pts (xgd nm ot q.2) + cps (cxg nm ot r) ≤ pts q.2 + cps r
    omega
section CH
variable {A A' A1 A1' : Nb} {bh n t c : Nat}
theorem kp_cd (h : inv1 A bh) (hc : c < 12) (hs : (stl8 A).testBit c = false) (ht : ((nV A) c).1 = true) : ∀ n v, (n, v) ∈ rK ((nY A).1 c) → n ∈ ((nV A) c).2.map (fun q => q.1) := by
  intro n v hm
  have hst := st_sti ht hc hs
  have hz : ((nY A).1 c).1 = 0 := by
    apply Classical.byContradiction
    intro g
    rw [er_K h hc g] at hm
    cases hm
  have hw : wr (nV A) c = 0 := by
    apply Classical.byContradiction
    intro g
    have := (sti_w (st0 := 0) g).mp hst
    rw [Nat.zero_add, hz] at this
    exact (i3_wr g).2 this.symm
  obtain ⟨-, hmf, -⟩ := (sti_r (st0 := 0) hw).mp hst
  rw [Nat.zero_add] at hmf
  have hC : rC ((nY A).1 c) = ((nV A) c).2 := by
    unfold mfr at hmf
    rw [Bool.and_eq_true, Bool.and_eq_true] at hmf
    exact ceq_t.mp hmf.1.1
  obtain ⟨-, -, -, -, -, ⟨F, G, h6⟩, -⟩ := h
  obtain ⟨hr, hg⟩ := h6 c hc
  have hnm : (rK ((nY A).1 c)).map (fun q => q.1) = ((nV A) c).2.map (fun q => q.1) := by
    rcases hr with y | ⟨B0, T0, I0, r1, r2, r3, -⟩
    · rw [y.2] at hm; cases hm
    · rcases outC_n (C := rC ((nY A).1 c)) (I := I0) (sd := rS ((nY A).1 c)) (cl := c) (B := B0) (rid := T0) (W := rW ((nY A).1 c)) with ⟨-, y⟩ | ⟨-, y⟩
      · rw [r3, y, hC]
      · rw [r3, y] at hm; cases hm
  rw [← hnm]
  exact List.mem_map.mpr ⟨(n, v), hm, rfl⟩
/-- what isn't defined is not kept -/
theorem kp_no {nm : Nat} (h : inv1 A bh) (hc : c < 12) (hs : (stl8 A).testBit c = false) (ht : ((nV A) c).1 = true) (hp : pof nm ((nV A) c).2 = none) : knd (lkp nm (rK ((nY A).1 c))) = 0 := by
  cases hv : lkp nm (rK ((nY A).1 c)) with
  | none => rfl
  | some v => exact absurd (kp_cd h hc hs ht nm v (lkp_mem hv)) (pof_iff.mp hp)
abbrev wY (A : Nb) (Y' : Yr) : Nb := (nP A, nV A, nM A, nIp A, nS A, nO A, nB A, Y')
theorem sim_tu (s : sim A A') : ∃ Y', A' = wY A Y' ∧ smY (nY A) Y' := by
  obtain ⟨s1, s2, s3, s4, s5, s6, s7, s8⟩ := s
  refine ⟨nY A', ?_, s8⟩
  show A' = (nP A, nV A, nM A, nIp A, nS A, nO A, nB A, nY A')
  rw [s1, s2, s3, s4, s5, s6, s7]
theorem LJ_chg (j : LJ A A' bh n t) (s : sim A1 A1') (i : inv1 A1 bh) (i' : inv1 A1' bh) (hm : nM A1 = nM A) (ho : nO A1 = nO A) (hK : ∀ c, c < 12 → ∀ n v, (n, v) ∈ rK ((nY A1).1 c) → (n, v) ∈ rK ((nY A).1 c)) (hK' : ∀ c, c < 12 → ∀ n v, (n, v) ∈ rK ((nY A1').1 c) → (n, v) ∈ rK ((nY A').1 c)) (h12 : ∀ i, 12 ≤ i → (nY A1).1 i = (nY A).1 i) (h12' : ∀ i, 12 ≤ i → (nY A1').1 i = (nY A').1 i) (hT : (nY A1).2.2 = (nY A).2.2) (hT' : (nY A1').2.2 = (nY A').2.2) (w : WT A1 n) : LJ (aS A1 (cao (nO A1))) (aS A1' (cao (nO A1'))) bh (n + 1) (t + 50) := by
  obtain ⟨j1, j2, j3, j4, j5⟩ := j
  have e6 : nO A1' = nO A1 := s.2.2.2.2.2.1.symm
  obtain ⟨a1, a2, a3, a4, a5⟩ := okq_p (chg_ok (okp_q j2) i hm ho hK h12 hT)
  obtain ⟨b1, b2, b3, b4, b5⟩ := okq_p (chg_ok (okp_q j3) i' (s.2.2.1.symm.trans (hm.trans j1.2.2.1)) (e6.trans (ho.trans j1.2.2.2.2.2.1)) hK' h12' hT')
  refine ⟨?_, ⟨a1, a2, a3, by omega, a5⟩, ⟨b1, b2, b3, by omega, b5⟩, j4, WT_up (A := aS A1 (cao (nO A1))) (n := n) w (by omega)⟩
  rw [e6]
  exact (sim_aS i s).1
theorem LJ_rm (j : LJ A A' bh n t) (hn : n ≤ 79) : rmL (nY A).1 Wo ∧ rmL (nY A').1 Wt := ⟨okq_rm (okp_q j.2.1) hn (by decide), okq_rm (okp_q j.2.2.1) hn (by decide)⟩
theorem fgt_K (RR : Nat → Rs) (c : Nat) : ∀ x, x < 12 → ∀ n v, (n, v) ∈ rK (fgt RR c x) → (n, v) ∈ rK (RR x) := fun x _ n v hv => by
  unfold fgt at hv
  split at hv
  · cases hv
  · exact hv
theorem noc_or (A : Nb) (c : Nat) (hc : c ≤ nM A) (hm : nM A ≤ 12) : noc A (i32 c) ∨ (c < 12 ∧ ((nV A) c).1 = true) := by
  rcases Nat.lt_or_ge c 12 with g | g
  · cases ht : ((nV A) c).1 with
    | true => exact Or.inr ⟨g, rfl⟩
    | false => exact Or.inl (Or.inr (Or.inr ⟨c, g, rfl, ht⟩))
  · exact Or.inl (Or.inr (Or.inl (by rw [show c = 12 by omega]; decide)))
end CH
