/-! What holds of a notebook between calls. -/
def vnm (V : Vr) : Prop := ∀ c, c < 12 → (∀ q, q ∈ (V c).2 → cdk q.2 ∧ q.1 < 6 ∧ fre q.2 < 64) ∧ ((V c).2.map (fun q => q.1)).Nodup ∧ (V c).2.length ≤ 4
def vgd (V : Vr) (m : Nat) : Prop := vnt V ∧ vnm V ∧ ∀ c, m ≤ c → V c = (false, [])
theorem vgd_c {V : Vr} {m : Nat} (h : vgd V m) : ∀ c, c < 12 → ∀ q, q ∈ (V c).2 → cdk q.2 := fun c hc q hq => ((h.2.1 c hc).1 q hq).1
def inv1 (A : Nb) (bh : Nat) : Prop :=
  vgd (nV A) (nM A) ∧ (∀ U, U ∈ nB A → vgd U (nM A)) ∧ (∀ e, e ∈ nP A → cdk e ∧ fre e < 64) ∧ (∀ k, k < 4 → ∃ j, j < 4 ∧ nIp A k = Int64.ofNat j) ∧ (∃ j, j < 3 ∧ nS A = i32 j) ∧
  (∃ F G, Rok F G (nY A).2.1 bh (nY A).1) ∧ (nO A = 2 → bh = 1) ∧ nO A ≤ 2 ∧ nM A ≤ 12 ∧ (nB A).length ≤ 4 ∧ 0 < (nY A).2.2 ∧ (∀ i, i < 24 → ((nY A).1 i).2.1 ≤ (nY A).2.2) ∧ ∀ c, c < 12 → ((nV A) c).1 = false → ((nY A).1 c).1 = -1 ∧ rK ((nY A).1 c) = []
def inv (A : Nb) (bh : Nat) : Prop := inv1 A bh ∧ (nO A = 0 → ∀ c, c < 12 → ¬ (stl8 A).testBit c = true)
/-- how many count as stale -/
noncomputable def ue (A : Nb) : Nat := if nO A = 2 then nM A else pc12 (stl8 A)
def pot (A : Nb) (n : Nat) : Prop := ∃ (p : Nat) (L : List Nat) (m : Nat), L.length ≤ 12 + p ∧ ¬ 0 ∈ L ∧ hasL 0 (nY A).1 L ∧ 2 * p + ue A ≤ nM A * (m + 1) ∧ m + nM A ≤ n + 3 ∧ (nO A = 0 → p = 0)
def dpo (A : Nb) (n : Nat) : Prop := ∃ (p : Nat) (L : List Nat) (m : Nat), L.length ≤ 12 + p ∧ ¬ 0 ∈ L ∧ hasL 0 (nY A).1 L ∧ 2 * p + nM A ≤ nM A * (m + 1) ∧ m + nM A ≤ n + 3 ∧ (nO A = 0 → p = 0)
def qpo (A : Nb) (n : Nat) : Prop := pot A n ∨ dpo A (n + 1)
def ano (A : Nb) (k : Nat) : Prop := ∃ L : List Nat, L.length ≤ k ∧ ¬ 0 ∈ L ∧ hasL 12 (nY A).1 L
theorem pc_m {a m : Nat} (h : ∀ i, i < 12 → a.testBit i = true → i < m) : pc12 a ≤ m := by
  have : ((List.range 12).filter (fun i => a.testBit i)).length ≤ (List.range m).length := nodup_le (List.nodup_range.filter _) (fun x hx => by
    obtain ⟨y1, y2⟩ := List.mem_filter.mp hx
    exact List.mem_range.mpr (h x (List.mem_range.mp y1) y2))
  rw [List.length_range] at this
  exact this
theorem dim_nil {V : Vr} {c : Nat} (h : (V c).2 = []) : dim V c 16 = 0 := by
  refine Nat.eq_of_testBit_eq (fun i => ?_)
  rw [Nat.zero_testBit]
  apply Bool.eq_false_iff.mpr
  intro y
  obtain ⟨n, -, h2, -⟩ := (dim_bit V c i 16).mp y
  rw [h] at h2
  have : (rds []).testBit n = false := Nat.zero_testBit n
  rw [this] at h2
  cases h2
theorem ns_nt {V : Vr} {RR : Nat → Rs} {I : Nat → Int64} {sd : Int32} {c : Nat} (hV : vnt V) (hc : c < 12) (ht : (V c).1 = false) : ¬ (stC V (stA V RR 0 I sd 12) 12).testBit c = true := fun y => by
  rcases (stl_iff hc).mp y with ⟨h1, -⟩ | ⟨-, c', h2, -⟩
  · rw [ht] at h1; cases h1
  · rw [dim_nil (hV c hc ht), Nat.zero_testBit] at h2; cases h2
theorem ue_le {A : Nb} {bh : Nat} (h : inv1 A bh) : ue A ≤ nM A := by
  unfold ue
  split
  · exact Nat.le_refl _
  · refine pc_m (fun i hi hb => ?_)
    apply Classical.byContradiction
    intro hn
    have := h.1.2.2 i (by omega)
    exact ns_nt h.1.1 hi (by rw [this]) hb
theorem dpo_pot {A : Nb} {bh n : Nat} (h : inv1 A bh) (d : dpo A n) : pot A n := by
  obtain ⟨p, L, m, h1, h2, h3, h4, h5, h6⟩ := d
  have := ue_le h
  exact ⟨p, L, m, h1, h2, h3, by omega, h5, h6⟩
theorem pot_up {A : Nb} {n n' : Nat} (h : pot A n) (hn : n ≤ n') : pot A n' := by
  obtain ⟨p, L, m, h1, h2, h3, h4, h5, h6⟩ := h
  exact ⟨p, L, m, h1, h2, h3, h4, by omega, h6⟩
/-- how long the lists can get -/
theorem mul_bd {a k n : Nat} (ha : a ≤ 12) (hk : k + a ≤ n) (hn : 84 ≤ n + 84 - n) (h83 : n ≤ 84) : a * k ≤ 12 * 72 := by
  have h1 : k ≤ 84 - a := by omega
  have h2 : a * k ≤ a * (84 - a) := Nat.mul_le_mul_left a h1
  have h3 : a * (84 - a) ≤ 12 * 72 := by
    rcases (show a = 0 ∨ a = 1 ∨ a = 2 ∨ a = 3 ∨ a = 4 ∨ a = 5 ∨ a = 6 ∨ a = 7 ∨ a = 8 ∨ a = 9 ∨ a = 10 ∨ a = 11 ∨ a = 12 by omega) with h | h | h | h | h | h | h | h | h | h | h | h | h <;> subst h <;> decide
  omega
theorem mul_bd3 {a k : Nat} (ha : a ≤ 12) (hk : k + a ≤ 83) : a * k ≤ 12 * 71 := by
  have h1 : k ≤ 83 - a := by omega
  have h2 : a * k ≤ a * (83 - a) := Nat.mul_le_mul_left a h1
  have h3 : a * (83 - a) ≤ 12 * 71 := by
    rcases (show a = 0 ∨ a = 1 ∨ a = 2 ∨ a = 3 ∨ a = 4 ∨ a = 5 ∨ a = 6 ∨ a = 7 ∨ a = 8 ∨ a = 9 ∨ a = 10 ∨ a = 11 ∨ a = 12 by omega) with h | h | h | h | h | h | h | h | h | h | h | h | h <;> subst h <;> decide
  omega
theorem qpo_L {A : Nb} {bh n : Nat} (h : inv1 A bh) (q : qpo A n) (hn : n ≤ 79) : ∃ L : List Nat, L.length ≤ 438 ∧ ¬ 0 ∈ L ∧ hasL 0 (nY A).1 L := by
  have ha : nM A ≤ 12 := h.2.2.2.2.2.2.2.2.1
  rcases q with ⟨p, L, m, h1, h2, h3, h4, h5, h6⟩ | ⟨p, L, m, h1, h2, h3, h4, h5, h6⟩
  · have := mul_bd3 (k := m + 1) ha (by omega)
    exact ⟨L, by omega, h2, h3⟩
  · have := mul_bd3 (k := m) ha (by omega)
    rw [Nat.mul_add, Nat.mul_one] at h4
    exact ⟨L, by omega, h2, h3⟩
theorem pot_L {A : Nb} {bh n : Nat} (h : inv1 A bh) (q : pot A n) (hn : n ≤ 80) : ∃ L : List Nat, L.length ≤ 444 ∧ ¬ 0 ∈ L ∧ hasL 0 (nY A).1 L := by
  have ha : nM A ≤ 12 := h.2.2.2.2.2.2.2.2.1
  obtain ⟨p, L, m, h1, h2, h3, h4, h5, h6⟩ := q
  have := mul_bd (n := 84) (k := m + 1) ha (by omega) (by omega) (Nat.le_refl _)
  exact ⟨L, by omega, h2, h3⟩
theorem rm_of {RR : Nat → Rs} {L L2 : List Nat} {W : Nat} (h0 : ¬ 0 ∈ L) (h : hasL 0 RR L) (h02 : ¬ 0 ∈ L2) (h2 : hasL 12 RR L2) (hW : 320 * (L.length + L2.length + 12) ≤ W) : rmL RR W := by
  refine ⟨L ++ L2, by rw [List.length_append]; exact hW, fun y => (List.mem_append.mp y).elim h0 h02, fun r ⟨i, n, v, hi, hm, hr⟩ => ?_⟩
  rcases Nat.lt_or_ge i 12 with g | g
  · exact List.mem_append_left _ (h i g n v (by rw [Nat.zero_add]; exact hm) r hr)
  · exact List.mem_append_right _ (h2 (i - 12) (by omega) n v (by rw [show 12 + (i - 12) = i by omega]; exact hm) r hr)
/-- nothing is settled -/
theorem stl_0 {V : Vr} {I : Nat → Int64} {sd : Int32} {st0 : Nat} {Y : Yr} : stl V I sd st0 0 Y = (0, 0, Y) := by
  have e : stl V I sd st0 0 Y = stT V I sd st0 12 (0, 0, Y) := by
    unfold stl
    rw [Nat.zero_and]
  rw [e]
  exact stT_0 (V := V) (I := I) (sd := sd) (st0 := st0) (S := (0, 0, Y)) (r := 0) rfl 12
theorem aS_0 (A : Nb) : aS A 0 = A := by
  unfold aS
  rw [stl_0]
theorem bit_4095 {c : Nat} (hc : c < 12) : (4095 : Nat).testBit c = true := by
  have : (4095 : Nat) = 2 ^ 12 - 1 := rfl
  rw [this, Nat.testBit_two_pow_sub_one]
  exact decide_eq_true hc
def wcl (V : Vr) (w : Nat) : Prop := ∀ c, c < 12 → w.testBit c = true → (V c).1 = true → wr V c = 0 → ∀ c', (dim V c 16).testBit c' = true → w.testBit c' = true
theorem wcl_4095 (V : Vr) : wcl V 4095 := fun _ _ _ _ _ _ hd => bit_4095 (dim_12 hd)
theorem wcl_wn (V : Vr) {c0 : Nat} (h0 : c0 < 12) : wcl V (wn V 12 c0 ||| 2 ^ c0) := fun c hc hb _ _ c' hd => by
  rw [Nat.testBit_or, Bool.or_eq_true]
  refine Or.inl ?_
  rw [Nat.testBit_or, Bool.or_eq_true] at hb
  rcases hb with hb | hb
  · exact wn_tr V 12 c c0 hc hb _ (dim_wn V c 12 _ hd)
  · rw [Nat.testBit_two_pow] at hb
    cases of_decide_eq_true hb
    exact dim_wn V c0 12 _ hd
theorem aS_inv1 {A : Nb} {bh w : Nat} (h : inv1 A bh) (hw : wcl (nV A) w) : inv1 (aS A w) bh ∧ jS (nV A) (nIp A) (nS A) w bh (nY A) (stl (nV A) (nIp A) (nS A) 0 w (nY A)) ∧ (stl (nV A) (nIp A) (nS A) 0 w (nY A)).1 = 0 ∧ (∀ i, 12 ≤ i → (nY (aS A w)).1 i = (nY A).1 i) ∧ (nY (aS A w)).2.2 ≤ (nY A).2.2 + 12 := by
  obtain ⟨h1, h2, h3, h4, h5, ⟨F, G, h6⟩, h7, h8, h9, h10, h11, h12, h13⟩ := h
  obtain ⟨j, j0⟩ := stl_main (w := w) (bh := bh) (I := nIp A) (sd := nS A) h11 h1.1 (vgd_c h1) hw h6
  obtain ⟨-, l2, l3, l4, l5, l6⟩ := stl_L (V := nV A) (I := nIp A) (sd := nS A) (w := w) (st0 := 0) (Y := nY A) h11 (vgd_c h1) h12
  refine ⟨⟨h1, h2, h3, h4, h5, j.1, h7, h8, h9, h10, l3, l4, fun c hc ht => ?_⟩, j, j0, fun i hi => l5 i (by omega), l2⟩
  have e : (nY (aS A w)).1 c = (nY A).1 c := j.2.2.2.2.2.2.1 c (fun y => by
    rw [Nat.testBit_and, vcl_bit, Bool.and_eq_true, Bool.and_eq_true] at y
    have ht : ((nV A) c).1 = false := ht
    rw [ht] at y
    cases y.2.2)
  rw [e]
  exact h13 c hc ht
theorem nst_of {V : Vr} {I : Nat → Int64} {sd : Int32} {bh : Nat} {Y : Yr} (hV : vnt V) (j : jS V I sd 4095 bh Y (stl V I sd 0 4095 Y)) (j0 : (stl V I sd 0 4095 Y).1 = 0) : ∀ c, c < 12 → ¬ (stC V (stA V (stl V I sd 0 4095 Y).2.2.1 0 I sd 12) 12).testBit c = true := fun c hc => by
  cases ht : (V c).1 with
  | false => exact ns_nt hV hc ht
  | true => exact stl_ns hV (wcl_4095 V) j j0 c hc (Or.inl ⟨bit_4095 hc, ht⟩)
theorem pc_0 {a : Nat} (h : ∀ c, c < 12 → ¬ a.testBit c = true) : pc12 a = 0 := by
  have := pc_m (a := a) (m := 0) (fun i hi hb => absurd hb (h i hi))
  omega
/-- where all is settled at once, the lists begin anew -/
theorem dpo_0 {A : Nb} {bh n : Nat} (h : inv A bh) (ho : nO A = 0) (hn : nM A ≤ n + 3) : dpo A n := by
  obtain ⟨h1, h2⟩ := h
  obtain ⟨hv, -, -, -, -, ⟨F, G, h6⟩, -, -, -, -, -, -, h13⟩ := h1
  obtain ⟨L, l1, l2, l3⟩ := rst12 (I := nIp A) (sd := nS A) hv.1 h6 (fun c hc ht => (ns_dcl (V := nV A) (I := nIp A) (sd := nS A) (nY A).1).1 c hc (h2 ho c hc) ht) (fun c hc ht => (h13 c hc ht).2)
  exact ⟨0, L, 0, by omega, l2, l3, by omega, by omega, fun _ => rfl⟩
/-- the end of a call that changes something -/
theorem chg_inv {A : Nb} {bh : Nat} (h : inv1 A bh) : inv (aS A (cao (nO A))) bh ∧ (∀ i, 12 ≤ i → (nY (aS A (cao (nO A)))).1 i = (nY A).1 i) ∧ (nY (aS A (cao (nO A)))).2.2 ≤ (nY A).2.2 + 12 := by
  by_cases ho : nO A = 0
  · have e : cao (nO A) = 4095 := if_pos ho
    rw [e]
    obtain ⟨k1, k2, k3, k4, k5⟩ := aS_inv1 h (wcl_4095 (nV A))
    exact ⟨⟨k1, fun _ => nst_of h.1.1 k2 k3⟩, k4, k5⟩
  · have e : cao (nO A) = 0 := if_neg ho
    rw [e, aS_0]
    exact ⟨⟨h, fun y => absurd y ho⟩, fun _ _ => rfl, by omega⟩
theorem chg_pot {A : Nb} {bh n : Nat} (h : inv1 A bh) (hq : nO A = 0 ∨ dpo A (n + 1)) (hn : nM A ≤ n + 1 + 3) : dpo (aS A (cao (nO A))) (n + 1) := by
  by_cases ho : nO A = 0
  · exact dpo_0 (chg_inv h).1 ho hn
  · have e : cao (nO A) = 0 := if_neg ho
    rw [e, aS_0]
    exact hq.resolve_left ho
/-- a change of code, or of what is told: from what it was to what is settled then -/
theorem qpo_chg {A A' : Nb} {n : Nat} (q : qpo A n) (hm : nM A' = nM A) (ho : nO A' = nO A) (hK : ∀ c, c < 12 → ∀ n v, (n, v) ∈ rK ((nY A').1 c) → (n, v) ∈ rK ((nY A).1 c)) : nO A' = 0 ∨ dpo A' (n + 1) := by
  have hl : ∀ L, hasL 0 (nY A).1 L → hasL 0 (nY A').1 L := fun L h c hc n v hv => h c hc n v (by rw [Nat.zero_add] at hv ⊢; exact hK c hc n v hv)
  rcases q with ⟨p, L, m, h1, h2, h3, h4, h5, h6⟩ | ⟨p, L, m, h1, h2, h3, h4, h5, h6⟩
  · refine Or.inr ⟨p, L, m + 1, h1, h2, hl L h3, ?_, by rw [hm]; omega, by rw [ho]; exact h6⟩
    rw [hm, Nat.mul_add, Nat.mul_one]
    omega
  · exact Or.inr ⟨p, L, m, h1, h2, hl L h3, by rw [hm]; exact h4, by rw [hm]; exact h5, by rw [ho]; exact h6⟩
theorem qpo_M {A : Nb} {n : Nat} (q : qpo A n) : nM A ≤ n + 1 + 3 := by
  rcases q with ⟨p, L, m, h1, h2, h3, h4, h5, h6⟩ | ⟨p, L, m, h1, h2, h3, h4, h5, h6⟩ <;> omega
theorem sim_aS {A A' : Nb} {bh w : Nat} (h : inv1 A bh) (s : sim A A') : sim (aS A w) (aS A' w) ∧ (stl (nV A) (nIp A) (nS A) 0 w (nY A)).2.1 = (stl (nV A') (nIp A') (nS A') 0 w (nY A')).2.1 := by
  obtain ⟨h1, h2, h3, h4, h5, ⟨F, G, h6⟩, h7, h8, h9, h10, h11, h12, h13⟩ := h
  obtain ⟨s1, s2, s3, s4, s5, s6, s7, s8⟩ := s
  have := stl_P (V := nV A) (I := nIp A) (sd := nS A) (w := w) h11 (vgd_c h1) s8 (Rok_1 h6)
  obtain ⟨t1, t2, t3, -⟩ := this
  have e : stl (nV A') (nIp A') (nS A') 0 w (nY A') = stl (nV A) (nIp A) (nS A) 0 w (nY A') := by rw [← s2, ← s4, ← s5]
  refine ⟨⟨s1, s2, s3, s4, s5, s6, s7, ?_⟩, ?_⟩
  · show smY (stl (nV A) (nIp A) (nS A) 0 w (nY A)).2.2 (stl (nV A') (nIp A') (nS A') 0 w (nY A')).2.2
    rw [e]; exact t3
  · rw [e]; exact t2
theorem ano_up {A A' : Nb} {k : Nat} (h : ano A k) (e : ∀ i, 12 ≤ i → (nY A').1 i = (nY A).1 i) : ano A' k := by
  obtain ⟨L, h1, h2, h3⟩ := h
  exact ⟨L, h1, h2, fun c hc n v hv => h3 c hc n v (by rw [← e _ (by omega)]; exact hv)⟩
