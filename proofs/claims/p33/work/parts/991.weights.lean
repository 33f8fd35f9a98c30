/-! Weights through the calls. -/
def okp (A : Nb) (bh n t k : Nat) : Prop := inv A bh ∧ pot A n ∧ ano A k ∧ (nY A).2.2 ≤ t ∧ 3 ≤ nM A
def okq (A : Nb) (bh n t k : Nat) : Prop := inv A bh ∧ qpo A n ∧ ano A k ∧ (nY A).2.2 ≤ t ∧ 3 ≤ nM A
section OK
variable {A A1 A2 A' : Nb} {bh n t k W : Nat}
theorem okp_q (h : okp A bh n t k) : okq A bh n t k := ⟨h.1, Or.inl h.2.1, h.2.2⟩
theorem okq_p (h : okq A bh n t k) : okp A bh (n + 1) t k := ⟨h.1, h.2.1.elim (fun y => pot_up y (by omega)) (fun y => dpo_pot h.1.1 y), h.2.2⟩
theorem okq_rm (h : okq A bh n t k) (hn : n ≤ 79) (hW : 320 * (438 + k + 12) ≤ W) : rmL (nY A).1 W := by
  obtain ⟨h1, h2, ⟨L2, l1, l2, l3⟩, -⟩ := h
  obtain ⟨L, m1, m2, m3⟩ := qpo_L h1.1 h2 hn
  exact rm_of m2 m3 l2 l3 (by omega)
theorem okp_rm (h : okp A bh n t k) (hn : n ≤ 80) (hW : 320 * (444 + 12) ≤ W) : rmA A W := fun B hB => by
  obtain ⟨L, m1, m2, m3⟩ := pot_L h.1.1 h.2.1 hn
  refine rm_of (L2 := []) m2 (fun c hc n v hv => ?_) (fun y => (by cases y)) (fun c hc n v hv => ?_) (by show 320 * (L.length + 0 + 12) ≤ W; omega)
  · refine m3 c hc n v ?_
    rw [(fga_i 12 (0 + c)).1 (by omega), hB (0 + c) (by omega)] at hv
    exact hv
  · rw [((fga_i 12 (12 + c)).2 (by omega) (by omega)).2] at hv
    cases hv
/-- a call that changes code or what is told -/
theorem chg_ok (h : okq A bh n t k) (i : inv1 A1 bh) (hm : nM A1 = nM A) (ho : nO A1 = nO A) (hK : ∀ c, c < 12 → ∀ n v, (n, v) ∈ rK ((nY A1).1 c) → (n, v) ∈ rK ((nY A).1 c)) (h12 : ∀ i, 12 ≤ i → (nY A1).1 i = (nY A).1 i) (hT : (nY A1).2.2 = (nY A).2.2) : okq (aS A1 (cao (nO A1))) bh n (t + 12) k := by
  obtain ⟨h1, h2, h3, h4, h5⟩ := h
  obtain ⟨c1, c2, c3⟩ := chg_inv i
  have := qpo_M h2
  refine ⟨c1, Or.inr (chg_pot i (qpo_chg h2 hm ho hK) (by rw [hm]; omega)), ano_up h3 (fun i hi => (c2 i hi).trans (h12 i hi)), by omega, ?_⟩
  show 3 ≤ nM A1
  omega
/-- the pile, what is kept -/
theorem okq_P {P : List Tr} (h : okq A bh n t k) (hP : ∀ e, e ∈ P → cdk e ∧ fre e < 64) : okq (P, A.2) bh n t k := ⟨inv_pile h.1 hP, h.2⟩
theorem okq_kp (h : okq A bh n t k) (hl : (nB A).length < 4) : okq (aKp A) bh n t k := ⟨inv_kp h.1 hl, h.2⟩
theorem cell_v2 (h : inv1 A bh) (c : Nat) : ((nV (aCell A)) c).2 = ((nV A) c).2 := by
  show (vup (nV A) (nM A) (true, ((nV A) (nM A)).2) c).2 = _
  unfold vup
  split
  next g => rw [g]
  · rfl
theorem cell_st (h : inv1 A bh) : ∀ c, (stl8 (aCell A)).testBit c = true → (stl8 A ||| 2 ^ (nM A)).testBit c = true := by
  have e := cell_v2 h
  have lt : ∀ c, (stl8 (aCell A)).testBit c = true → c < 12 := fun c hc => bits_lt (stC_lt (stA_lt 12 (Nat.le_refl _)) 12) c hc
  have key : ∀ (m c : Nat), rk (nV A) c = m → c < 12 → (stl8 (aCell A)).testBit c = true → (stl8 A ||| 2 ^ (nM A)).testBit c = true := by
    intro m
    induction m using Nat.strongRecOn with
    | _ m ih =>
      intro c hr hc hb
      rw [Nat.testBit_or, Nat.testBit_two_pow, Bool.or_eq_true]
      by_cases hn : nM A = c
      · exact Or.inr (decide_eq_true hn)
      · refine Or.inl ((stl_iff hc).mpr ?_)
        rcases (stl_iff hc).mp hb with ⟨y1, y2⟩ | ⟨y1, c', y2, y3⟩
        · refine Or.inl ⟨?_, (v2_sti e (nY A).1 0 (nIp A) (nS A) c).symm.trans y2⟩
          have y1 : (vup (nV A) (nM A) (true, ((nV A) (nM A)).2) c).1 = true := y1
          unfold vup at y1
          rw [if_neg (fun y => hn y.symm)] at y1
          exact y1
        · rw [v2_wr e c] at y1
          rw [v2_dim e c 16] at y2
          refine Or.inr ⟨y1, c', y2, ?_⟩
          have h12 := dim_12 y2
          have := ih (rk (nV A) c') (by rw [← hr]; exact rk_lt y1 y2 h12) c' rfl h12 y3
          rw [Nat.testBit_or, Nat.testBit_two_pow, Bool.or_eq_true] at this
          rcases this with g | g
          · exact g
          · exfalso
            have g := of_decide_eq_true g
            obtain ⟨n, -, n2, n3⟩ := (dim_bit (nV A) c c' 16).mp y2
            rw [dfm_bit, Bool.and_eq_true] at n3
            have := n3.2
            rw [← g, h.1.2.2 (nM A) (Nat.le_refl _)] at this
            have e0 : (dfd []).testBit n = false := Nat.zero_testBit n
            have this : (dfd []).testBit n = true := this
            rw [e0] at this
            cases this
  exact fun c hc => key _ c rfl (lt c hc) hc
theorem pc_or (a m : Nat) : pc12 (a ||| 2 ^ m) ≤ pc12 a + 1 := by
  unfold pc12
  have : ∀ l : List Nat, l.Nodup → (l.filter (fun i => (a ||| 2 ^ m).testBit i)).length ≤ (l.filter (fun i => a.testBit i)).length + 1 ∧ (¬ m ∈ l → (l.filter (fun i => (a ||| 2 ^ m).testBit i)).length ≤ (l.filter (fun i => a.testBit i)).length) := by
    intro l
    induction l with
    | nil => exact fun _ => ⟨by simp, fun _ => by simp⟩
    | cons x r ih =>
      intro hn
      obtain ⟨n1, n2⟩ := List.nodup_cons.mp hn
      obtain ⟨i1, i2⟩ := ih n2
      have ex : (a ||| 2 ^ m).testBit x = (a.testBit x || decide (m = x)) := by rw [Nat.testBit_or, Nat.testBit_two_pow]
      constructor
      · by_cases hm : m = x
        · have := i2 (by rw [hm]; exact n1)
          rw [List.filter_cons, List.filter_cons]
          split <;> split <;> (try simp only [List.length_cons]) <;> omega
        · rw [List.filter_cons, List.filter_cons, ex, decide_eq_false hm, Bool.or_false]
          split <;> (try simp only [List.length_cons]) <;> omega
      · intro hm
        have h1 : ¬ m = x := fun y => hm (by rw [y]; exact List.mem_cons_self)
        have := i2 (fun y => hm (List.mem_cons_of_mem _ y))
        rw [List.filter_cons, List.filter_cons, ex, decide_eq_false h1, Bool.or_false]
        split <;> (try simp only [List.length_cons]) <;> omega
  exact (this (List.range 12) List.nodup_range).1
theorem pc_sub {a b : Nat} (h : ∀ c, a.testBit c = true → b.testBit c = true) : pc12 a ≤ pc12 b := by
  unfold pc12
  exact flt_le (fun i _ y => h i y)
theorem cell_ok (h : okp A bh n t k) (hm : nM A < 12) : okp (aS (aCell A) (cao (nO A))) bh (n + 1) (t + 12) k := by
  obtain ⟨h1, h2, h3, h4, h5⟩ := h
  have i1 := inv1_cell h1.1 hm
  obtain ⟨c1, c2, c3⟩ := chg_inv i1
  have c1 : inv (aS (aCell A) (cao (nO A))) bh := c1
  have c3 : (nY (aS (aCell A) (cao (nO A)))).2.2 ≤ (nY A).2.2 + 12 := c3
  obtain ⟨p, L, m, p1, p2, p3, p4, p5, p6⟩ := h2
  refine ⟨c1, ?_, ano_up h3 c2, by omega, by show 3 ≤ nM A + 1; omega⟩
  by_cases ho : nO A = 0
  · exact dpo_pot c1.1 (dpo_0 c1 ho (by show nM A + 1 ≤ n + 1 + 3; omega))
  · have e : cao (nO A) = 0 := if_neg ho
    rw [e, aS_0]
    refine ⟨p, L, m, p1, p2, p3, ?_, by show m + (nM A + 1) ≤ n + 1 + 3; omega, p6⟩
    have hu : ue (aCell A) ≤ ue A + 1 := by
      unfold ue
      show (if nO A = 2 then nM A + 1 else pc12 (stl8 (aCell A))) ≤ _
      split
      · exact Nat.le_refl _
      · exact Nat.le_trans (pc_sub (cell_st h1.1)) (pc_or _ _)
    show 2 * p + ue (aCell A) ≤ (nM A + 1) * (m + 1)
    rw [Nat.add_mul]
    omega
theorem mode_ok {o : Nat} (h : okp A bh n t k) (ho : o ≤ 2) : okp (aS (aMod A o) (cao o)) (if o = 2 then 1 else bh) (n + 1) (t + 12) k := by
  obtain ⟨h1, h2, h3, h4, h5⟩ := h
  have i1 := inv1_mod h1.1 ho rfl
  obtain ⟨c1, c2, c3⟩ := chg_inv i1
  have c1 : inv (aS (aMod A o) (cao o)) (if o = 2 then 1 else bh) := c1
  have c3 : (nY (aS (aMod A o) (cao o))).2.2 ≤ (nY A).2.2 + 12 := c3
  obtain ⟨p, L, m, p1, p2, p3, p4, p5, p6⟩ := h2
  refine ⟨c1, ?_, ano_up h3 c2, by omega, h5⟩
  by_cases h0 : o = 0
  · exact dpo_pot c1.1 (dpo_0 c1 h0 (by show nM A ≤ n + 1 + 3; omega))
  · have e : cao o = 0 := if_neg h0
    rw [e, aS_0]
    have hu : ue (aMod A o) ≤ nM A := ue_le i1
    refine ⟨p, L, m + 1, p1, p2, p3, ?_, by show m + 1 + nM A ≤ n + 1 + 3; omega, fun y => absurd y h0⟩
    show 2 * p + ue (aMod A o) ≤ nM A * (m + 1 + 1)
    rw [Nat.mul_add (nM A) (m + 1) 1, Nat.mul_one]
    omega
theorem hand_ok {c : Nat} (h : okp A bh n t k) (ho : nO A = 2) (hc : c < 12) (ht : ((nV A) c).1 = true) : okp (aR A c) bh (n + 1) (t + 12) k := by
  obtain ⟨h1, h2, h3, h4, h5⟩ := h
  have c1 := inv_R h1 ho hc ht
  obtain ⟨p, L, m, p1, p2, p3, p4, p5, p6⟩ := h2
  have hT : 0 < (nY A).2.2 := by
    obtain ⟨-, -, -, -, -, -, -, -, -, -, y, -⟩ := h1.1
    exact y
  have hLs := hasL_on (V := nV A) (I := nIp A) (sd := nS A) hc (vgd_c h1.1.1 c hc) p3
  have hu : ue A = nM A := if_pos ho
  have hu2 : ue (aR A c) = nM A := if_pos ho
  refine ⟨c1, ?_, ano_up h3 (fun i hi => rOn_o (by omega)), ?_, h5⟩
  · refine ⟨p + 1, _, m + 1, ?_, ?_, hLs, ?_, by show m + 1 + nM A ≤ n + 1 + 3; omega, fun y => ?_⟩
    · split
      · show L.length + 1 ≤ _; omega
      · omega
    · split
      · intro y
        rcases List.mem_cons.mp y with g | g
        · omega
        · exact p2 g
      · exact p2
    · rw [hu2]
      show 2 * (p + 1) + nM A ≤ nM A * (m + 1 + 1)
      rw [Nat.mul_add (nM A) (m + 1) 1, Nat.mul_one]
      omega
    · have y : nO A = 0 := y
      omega
  · show (rOn (nV A) (nIp A) (nS A) 0 c (nY A)).2.2 ≤ t + 12
    rw [rOn_T]
    omega
theorem need_ran {w : Nat} (h : inv A bh) (hw : wcl (nV A) w) : (stl (nV A) (nIp A) (nS A) 0 w (nY A)).2.1 + pc12 (stl8 (aS A w)) ≤ pc12 (stl8 A) ∧ pc12 (stl8 A) ≤ nM A ∧ (nO A = 0 → pc12 (stl8 A) = 0) := by
  obtain ⟨-, k2, k3, -, -⟩ := aS_inv1 h.1 hw
  refine ⟨stl_cnt h.1.1.1 hw k2 k3, pc_m (fun i hi hb => ?_), fun y => pc_0 (h.2 y)⟩
  apply Classical.byContradiction
  intro hn
  have := h.1.1.2.2 i (by omega)
  exact ns_nt h.1.1.1 hi (by rw [this]) hb
theorem need_ok {w : Nat} (h : okp A bh n t k) (ho : ¬ nO A = 2) (hw : wcl (nV A) w) : okp (aS A w) bh (n + 1) (t + 12) k := by
  obtain ⟨h1, h2, h3, h4, h5⟩ := h
  obtain ⟨k1, k2, k3, k4, k5⟩ := aS_inv1 h1.1 hw
  obtain ⟨r1, r2, r3⟩ := need_ran h1 hw
  obtain ⟨p, L, m, p1, p2, p3, p4, p5, p6⟩ := h2
  have hC := vgd_c h1.1.1
  obtain ⟨-, -, -, -, -, -, -, -, -, -, hT, h12, -⟩ := id h1.1
  obtain ⟨l1, -⟩ := stl_L (V := nV A) (I := nIp A) (sd := nS A) (w := w) (st0 := 0) (Y := nY A) hT hC h12
  obtain ⟨L', m1, m2, m3⟩ := l1 L p2 p3
  have hu : ue A = pc12 (stl8 A) := if_neg ho
  have hu2 : ue (aS A w) = pc12 (stl8 (aS A w)) := if_neg ho
  refine ⟨⟨k1, fun y c hc => ?_⟩, ⟨p + (stl (nV A) (nIp A) (nS A) 0 w (nY A)).2.1, L', m + 1, by omega, m2, m3, ?_, by show m + 1 + nM A ≤ n + 1 + 3; omega, fun y => ?_⟩, ano_up h3 k4, by omega, h5⟩
  · exact stl_ns h1.1.1.1 hw k2 k3 c hc (Or.inr (h1.2 y c hc))
  · rw [hu2]
    show 2 * (p + _) + pc12 (stl8 (aS A w)) ≤ nM A * (m + 1 + 1)
    rw [Nat.mul_add (nM A) (m + 1) 1, Nat.mul_one]
    omega
  · have := p6 y
    have := r3 y
    omega
end OK
