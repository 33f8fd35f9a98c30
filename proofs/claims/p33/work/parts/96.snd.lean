/-! Sound's facts. -/
def sA (A A1 : Nb) : Prop := nP A1 = nP A ∧ nV A1 = nV A ∧ nM A1 = nM A ∧ nIp A1 = nIp A ∧ nS A1 = nS A ∧ nO A1 = nO A ∧ nB A1 = nB A ∧ (∀ i, i < 12 → (nY A1).1 i = (nY A).1 i) ∧ (nY A).2.1 ≤ (nY A1).2.1
theorem sA_rf (A : Nb) : sA A A := ⟨rfl, rfl, rfl, rfl, rfl, rfl, rfl, fun _ _ => rfl, Nat.le_refl _⟩
theorem sA_tr {A A1 A2 : Nb} (h : sA A A1) (h' : sA A1 A2) : sA A A2 := by
  obtain ⟨h1, h2, h3, h4, h5, h6, h7, h8, h9⟩ := h
  obtain ⟨k1, k2, k3, k4, k5, k6, k7, k8, k9⟩ := h'
  exact ⟨k1.trans h1, k2.trans h2, k3.trans h3, k4.trans h4, k5.trans h5, k6.trans h6, k7.trans h7, fun i hi => (k8 i hi).trans (h8 i hi), Nat.le_trans h9 k9⟩
theorem sA_A (A : Nb) : sA A (aA A) := by
  obtain ⟨-, a2, a3⟩ := anew_main (V := nV A) (I := nIp A) (sd := nS A) (RR := (nY A).1) (Z := (nY A).2)
  exact ⟨rfl, rfl, rfl, rfl, rfl, rfl, rfl, a2, a3⟩
theorem stA_c {V : Vr} {RR RR' : Nat → Rs} {I : Nat → Int64} {sd : Int32} (h : ∀ i, i < 12 → RR i = RR' i) : stA V RR 0 I sd 12 = stA V RR' 0 I sd 12 := by
  refine Nat.eq_of_testBit_eq (fun i => ?_)
  rw [stA_bit, stA_bit]
  by_cases hi : i < 12
  · have e : sti V RR 0 I sd i = sti V RR' 0 I sd i := sti_cong (by rw [Nat.zero_add]; exact h i hi) (fun _ n hn hb => vin_same hn hb (fun c' hd => by rw [Nat.zero_add]; exact h c' (dim_12 hd)))
    rw [e]
  · rw [decide_eq_false hi]; rfl
theorem sA_st {A A1 : Nb} (h : sA A A1) : stl8 A1 = stl8 A := by
  obtain ⟨-, h2, -, h4, h5, -, -, h8, -⟩ := h
  unfold stl8
  rw [h2, h4, h5, stA_c h8]
theorem sA_sim {A A' A1 A2 : Nb} (s : sim A A') (h : sA A A1) (h' : sA A' A2) : sim A1 A2 := by
  obtain ⟨s1, s2, s3, s4, s5, s6, s7, P, p1, p2, p3⟩ := s
  obtain ⟨h1, h2, h3, h4, h5, h6, h7, h8, h9⟩ := h
  obtain ⟨k1, k2, k3, k4, k5, k6, k7, k8, k9⟩ := h'
  exact ⟨h1.trans (s1.trans k1.symm), h2.trans (s2.trans k2.symm), h3.trans (s3.trans k3.symm), h4.trans (s4.trans k4.symm), h5.trans (s5.trans k5.symm), h6.trans (s6.trans k6.symm), h7.trans (s7.trans k7.symm), P, p1, fun a b y => ⟨Nat.lt_of_lt_of_le (p2 a b y).1 h9, Nat.lt_of_lt_of_le (p2 a b y).2 k9⟩, fun i hi => by rw [h8 i hi, k8 i hi]; exact p3 i hi⟩
theorem i3_wr {V : Vr} {c : Nat} (h : ¬ wr V c = 0) : ¬ i32 (wr V c) = -1 ∧ ¬ i32 (wr V c) = 0 := by
  have := wr_le V c
  rcases (show wr V c = 1 ∨ wr V c = 2 ∨ wr V c = 3 by omega) with y | y | y <;> rw [y] <;> decide
section SF
variable {A : Nb} {bh : Nat} {c : Nat}
theorem wn_th {V : Vr} (hV : vnt V) : ∀ (k c i : Nat), (wn V k c).testBit i = true → i < 12 ∧ (V i).1 = true
  | 0, c, i, h => by
    obtain ⟨n, h1, h2, h3⟩ := (dim_bit V c i 16).mp h
    rw [dfm_bit, Bool.and_eq_true] at h3
    have h12 : i < 12 := dim_12 (V := V) (c := c) h
    exact ⟨h12, dfd_there hV h12 (by first | exact h3.1 | exact h3.2)⟩
  | k + 1, c, i, h => by
    rcases wst_3 (o := k) (ne := wn V k) h with y | ⟨-, y⟩
    · exact wn_th hV k c i y
    · exact wn_th hV k k i y
theorem sl_th {V : Vr} (hV : vnt V) (hc : c < 12) (ht : (V c).1 = true) {i : Nat} (h : (wn V 12 c ||| 2 ^ c).testBit i = true) : i < 12 ∧ (V i).1 = true := by
  rw [Nat.testBit_or, Bool.or_eq_true] at h
  rcases h with h | h
  · exact wn_th hV 12 c i h
  · rw [Nat.testBit_two_pow] at h
    cases (of_decide_eq_true h)
    exact ⟨hc, ht⟩
theorem er_K (h : inv1 A bh) (hc : c < 12) (he : ¬ ((nY A).1 c).1 = 0) : rK ((nY A).1 c) = [] := by
  obtain ⟨-, -, -, -, -, ⟨F, G, h6⟩, -⟩ := h
  rcases (h6 c hc).1 with y | ⟨B0, T0, I0, r1, r2, r3, -⟩
  · exact y.2
  · rcases outC_n (C := rC ((nY A).1 c)) (I := I0) (sd := rS ((nY A).1 c)) (cl := c) (B := B0) (rid := T0) (W := rW ((nY A).1 c)) with ⟨y, -⟩ | ⟨-, y⟩
    · exact absurd (r2.trans y) he
    · exact r3.trans y
theorem an_w (hi : inv A bh) (hc : c < 12) (ht : ((nV A) c).1 = true) (h0 : 0 < ((nY (aA A)).1 (12 + c)).1) (h4 : ((nY (aA A)).1 (12 + c)).1 < i32 4) : ¬ wr (nV A) c = 0 := fun hw => by
  obtain ⟨-, y, -⟩ := inv_A hi
  obtain ⟨B1, T1, a1, -⟩ := (y c hc ht).1 hw
  have a1 : ((nY (aA A)).1 (12 + c)).1 = _ := a1
  rcases outC_n (C := (nV A c).2) (I := nIp A) (sd := nS A) (cl := c) (B := B1) (rid := T1) (W := vin (nV A) (fun i => (nY (aA A)).1 (12 + i)) 0) with ⟨y, -⟩ | ⟨y | y, -⟩
  · rw [a1, y] at h0; exact absurd h0 (by decide)
  · rw [a1, y] at h4; exact absurd h4 (by decide)
  · rw [a1, y] at h4; exact absurd h4 (by decide)
theorem st_sti (ht : ((nV A) c).1 = true) (hc : c < 12) (hs : (stl8 A).testBit c = false) : sti (nV A) (nY A).1 0 (nIp A) (nS A) c = false := by
  apply Bool.eq_false_iff.mpr
  intro y
  have : (stl8 A).testBit c = true := (stl_iff hc).mpr (Or.inl ⟨ht, y⟩)
  rw [hs] at this
  cases this
theorem an_s (hi : inv A bh) (hc : c < 12) (ht : ((nV A) c).1 = true) (hw : ¬ wr (nV A) c = 0) : (stl8 A).testBit c = false ↔ ((nY A).1 c).1 = ((nY (aA A)).1 (12 + c)).1 := by
  obtain ⟨-, y, -⟩ := inv_A hi
  have a1 : ((nY (aA A)).1 (12 + c)).1 = i32 (wr (nV A) c) := ((y c hc ht).2 hw).1
  rw [a1]
  have key := sti_w (RR := (nY A).1) (st0 := 0) (I := nIp A) (sd := nS A) hw
  rw [Nat.zero_add] at key
  constructor
  · intro hs
    exact key.mp (st_sti ht hc hs)
  · intro he
    apply Bool.eq_false_iff.mpr
    intro hs
    rcases (stl_iff hc).mp hs with ⟨-, y⟩ | ⟨y, -⟩
    · rw [key.mpr he] at y; cases y
    · exact hw y
theorem er_0 (hi : inv A bh) (hc : c < 12) (ht : ((nV A) c).1 = true) (hs : (stl8 A).testBit c = false) : ¬ ((nY A).1 c).1 = -1 := fun he => by
  have h := st_sti ht hc hs
  by_cases hw : wr (nV A) c = 0
  · exact ((sti_r (st0 := 0) hw).mp h).1 (Or.inl (by rw [Nat.zero_add]; exact he))
  · have := (sti_w (st0 := 0) hw).mp h
    rw [Nat.zero_add, he] at this
    exact (i3_wr hw).1 this.symm
theorem snd_ok (hi : inv A bh) (hc : c < 12) (ht : ((nV A) c).1 = true) (hs : (stl8 A).testBit c = false) (hp : bh = 0 ∨ ∀ c', c' < 12 → (wn (nV A) 12 c ||| 2 ^ c).testBit c' = true → (stl8 A).testBit c' = false → ∀ n v, (n, v) ∈ rK ((nY A).1 c') → isN v = true) : ((nY A).1 c).1 = ((nY (aA A)).1 (12 + c)).1 ∧ lK (rlt tT tQ) (rK ((nY A).1 c)) (rK ((nY (aA A)).1 (12 + c))) := by
  have hV : vnt (nV A) := hi.1.1.1
  by_cases hw : wr (nV A) c = 0
  · obtain ⟨-, y, -⟩ := inv_A hi
    obtain ⟨-, -, -, -, -, ⟨F, G, h6⟩, -⟩ := hi.1
    have hD : dcl (nV A) (nY A).1 (nIp A) (nS A) (fun c' => (wn (nV A) 12 c ||| 2 ^ c).testBit c' = true ∧ ¬ (stl8 A).testBit c' = true) := by
      refine ⟨fun c1 h1 hd t1 => (ns_dcl (nY A).1).1 c1 h1 hd.2 t1, fun c1 h1 hd w1 c2 h2 => ⟨?_, (ns_dcl (nY A).1).2 c1 h1 hd.2 w1 c2 h2⟩⟩
      exact wcl_wn (nV A) hc c1 h1 hd.1 (sl_th hV hc ht hd.1).2 w1 c2 h2
    have hb0 : (wn (nV A) 12 c ||| 2 ^ c).testBit c = true := by
      rw [Nat.testBit_or, Nat.testBit_two_pow]; simp
    exact snd9 hV h6 hD (hp.imp id (fun g c1 h1 hd n v hm => g c1 h1 hd.1 (Bool.eq_false_iff.mpr hd.2) n v hm)) y _ c rfl hc ⟨hb0, by rw [hs]; decide⟩ hw ht
  · have he := (an_s hi hc ht hw).mp hs
    refine ⟨he, ?_⟩
    obtain ⟨-, y, -⟩ := inv_A hi
    have a1 : ((nY (aA A)).1 (12 + c)).1 = i32 (wr (nV A) c) := ((y c hc ht).2 hw).1
    have a2 : rK ((nY (aA A)).1 (12 + c)) = [] := ((y c hc ht).2 hw).2
    have a3 : rK ((nY A).1 c) = [] := er_K hi.1 hc (by rw [he, a1]; exact (i3_wr hw).2)
    rw [a2, a3]
    trivial
theorem lkp_nd {n : Nat} {v : Tr} : ∀ {K : Cd}, (K.map (fun q => q.1)).Nodup → (n, v) ∈ K → lkp n K = some v
  | [], _, h => by cases h
  | q :: r, hn, h => by
    have hn : (q.1 :: r.map (fun q => q.1)).Nodup := hn
    obtain ⟨y1, y2⟩ := List.nodup_cons.mp hn
    unfold lkp
    rcases List.mem_cons.mp h with g | g
    · rw [← g, if_pos rfl]
    · have : n ∈ r.map (fun q => q.1) := List.mem_map.mpr ⟨(n, v), g, rfl⟩
      rw [if_neg (fun e => y1 (by rw [e]; exact this))]
      exact lkp_nd y2 g
/-- what a cell that isn't stale keeps: of names of its code -/
theorem kp_nm (h : inv1 A bh) (hc : c < 12) (hs : (stl8 A).testBit c = false) (ht : ((nV A) c).1 = true) : (∀ n v, (n, v) ∈ rK ((nY A).1 c) → n < 6 ∧ lkp n (rK ((nY A).1 c)) = some v ∧ vl9 v = true) := by
  intro n v hm
  have hst := st_sti ht hc hs
  have hz : ((nY A).1 c).1 = 0 := by
    apply Classical.byContradiction
    intro g
    rw [er_K h hc g] at hm
    cases hm
  have hw : wr (nV A) c = 0 := by
    apply Classical.byContradiction
    intro g
    have := (sti_w (st0 := 0) g).mp hst
    rw [Nat.zero_add, hz] at this
    exact (i3_wr g).2 this.symm
  obtain ⟨-, hmf, -⟩ := (sti_r (st0 := 0) hw).mp hst
  rw [Nat.zero_add] at hmf
  have hC : rC ((nY A).1 c) = ((nV A) c).2 := by
    unfold mfr at hmf
    rw [Bool.and_eq_true, Bool.and_eq_true] at hmf
    exact ceq_t.mp hmf.1.1
  obtain ⟨⟨-, hvn, -⟩, -, -, -, -, ⟨F, G, h6⟩, -⟩ := h
  obtain ⟨v1, v2, v3⟩ := hvn c hc
  obtain ⟨hr, hg⟩ := h6 c hc
  have hnm : (rK ((nY A).1 c)).map (fun q => q.1) = ((nV A) c).2.map (fun q => q.1) := by
    rcases hr with y | ⟨B0, T0, I0, r1, r2, r3, -⟩
    · rw [y.2] at hm; cases hm
    · rcases outC_n (C := rC ((nY A).1 c)) (I := I0) (sd := rS ((nY A).1 c)) (cl := c) (B := B0) (rid := T0) (W := rW ((nY A).1 c)) with ⟨-, y⟩ | ⟨-, y⟩
      · rw [r3, y, hC]
      · rw [r3, y] at hm; cases hm
  refine ⟨?_, lkp_nd (by rw [hnm]; exact v2) hm, (hg n v hm).2⟩
  have : n ∈ (rK ((nY A).1 c)).map (fun q => q.1) := List.mem_map.mpr ⟨(n, v), hm, rfl⟩
  rw [hnm] at this
  obtain ⟨q, q1, q2⟩ := List.mem_map.mp this
  rw [← q2]
  exact (v1 q q1).2.1
/-- numbers, as kind tells it -/
theorem kd_N (h : inv1 A bh) (hc : c < 12) (hk : ∀ n, n < 6 → ¬ knd (lkp n (rK ((nY A).1 c))) = 2) (hs : (stl8 A).testBit c = false) (ht : ((nV A) c).1 = true) : ∀ n v, (n, v) ∈ rK ((nY A).1 c) → isN v = true := fun n v hm => by
  obtain ⟨y1, y2, y3⟩ := kp_nm h hc hs ht n v hm
  have := hk n y1
  rw [y2, knd_s] at this
  unfold vl9 at y3
  rw [Bool.and_eq_true, Bool.or_eq_true] at y3
  rcases y3.1 with g | g
  · rw [if_pos g] at this; exact absurd rfl this
  · exact g
/-- alike in the sense of snd_ok: what is told of a name -/
theorem snd_nm {K K' : Cd} (h : lK (rlt tT tQ) K K') (n : Nat) : (∀ v, lkp n K = some v → ¬ isC v = true → ∃ v', lkp n K' = some v' ∧ ¬ isC v' = true ∧ num v = num v') ∧ (¬ knd (lkp n K) = 1 → ¬ knd (lkp n K') = 1) := by
  rcases lK_lkp (n := n) h with ⟨y1, y2⟩ | ⟨v, v', y1, y2, y3⟩
  · rw [y1, y2]
    exact ⟨fun v y => (by cases y), fun y => y⟩
  · rw [y1, y2]
    obtain ⟨f1, f2, -⟩ := rlt_f y3
    refine ⟨fun u hu hC => ?_, fun y => ?_⟩
    · cases hu
      exact ⟨v', rfl, by rw [← f1]; exact hC, f2⟩
    · rw [knd_s] at y ⊢
      rw [← f1]
      exact y
end SF
