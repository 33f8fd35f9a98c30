/-! What needs what: the closure, its rank, the stale ones. -/
/-- a's bits are b's -/
def bsb (a b : Nat) : Prop := ∀ i, a.testBit i = true → b.testBit i = true
theorem bsb_rf (a : Nat) : bsb a a := fun _ h => h
theorem bsb_tr {a b c : Nat} (h : bsb a b) (h' : bsb b c) : bsb a c := fun i y => h' i (h i y)
theorem bsb_l (a b : Nat) : bsb a (a ||| b) := fun i h => by rw [Nat.testBit_or, h]; rfl
theorem bsb_r (a b : Nat) : bsb b (a ||| b) := fun i h => by rw [Nat.testBit_or, h, Bool.or_true]
theorem bsb_or {a b c : Nat} (h : bsb a c) (h' : bsb b c) : bsb (a ||| b) c := fun i y => by
  rw [Nat.testBit_or, Bool.or_eq_true] at y
  exact y.elim (h i) (h' i)
theorem wst_1 {o : Nat} {ne : Nat → Nat} {c : Nat} : bsb (ne c) (wst o ne c) := by
  unfold wst
  split
  · exact bsb_l _ _
  · exact bsb_rf _
theorem wst_2 {o : Nat} {ne : Nat → Nat} {c : Nat} (h : (ne c).testBit o = true) : bsb (ne o) (wst o ne c) := by
  unfold wst
  rw [if_pos h]
  exact bsb_r _ _
theorem wst_3 {o : Nat} {ne : Nat → Nat} {c i : Nat} (h : (wst o ne c).testBit i = true) : (ne c).testBit i = true ∨ ((ne c).testBit o = true ∧ (ne o).testBit i = true) := by
  unfold wst at h
  split at h
  next g =>
    rw [Nat.testBit_or, Bool.or_eq_true] at h
    exact h.elim Or.inl (fun y => Or.inr ⟨g, y⟩)
  next => exact Or.inl h
theorem wn_tr (V : Vr) : ∀ k o c, o < k → (wn V k c).testBit o = true → bsb (wn V k o) (wn V k c)
  | 0, o, c, h, _ => absurd h (Nat.not_lt_zero o)
  | k + 1, o, c, h, hb => by
    have ih := wn_tr V k
    show bsb (wst k (wn V k) o) (wst k (wn V k) c)
    have hb : (wst k (wn V k) c).testBit o = true := hb
    have key : ∀ x, (wn V k c).testBit x = true → x < k → bsb (wst k (wn V k) x) (wst k (wn V k) c) := fun x hx hk i hi => by
      have hs := ih x c hk hx
      rcases wst_3 hi with y | ⟨y1, y2⟩
      · exact wst_1 _ (hs _ y)
      · exact wst_2 (hs _ y1) _ y2
    rcases Nat.lt_or_ge o k with hk | hk
    · rcases wst_3 hb with y | ⟨y1, y2⟩
      · exact key o y hk
      · intro i hi
        have hs := ih o k hk y2
        rcases wst_3 hi with y | ⟨w1, w2⟩
        · exact wst_2 y1 _ (hs _ y)
        · exact wst_2 y1 _ w2
    · cases (show o = k by omega)
      have hc : (wn V k c).testBit k = true := by
        rcases wst_3 hb with y | ⟨y1, -⟩
        · exact y
        · exact y1
      intro i hi
      rcases wst_3 hi with y | ⟨w1, w2⟩
      · exact wst_2 hc _ y
      · exact wst_2 hc _ w2
theorem dim_wn (V : Vr) (c : Nat) : ∀ k, bsb (dim V c 16) (wn V k c)
  | 0 => bsb_rf _
  | k + 1 => bsb_tr (dim_wn V c k) wst_1
theorem wr_0 {V : Vr} {c : Nat} (h : wr V c = 0) : bex (wrA V c) 16 = false ∧ (wn V 12 c).testBit c = false ∧ bex (wrB V c) 16 = false := by
  unfold wr at h
  split at h
  · cases h
  next h1 =>
    split at h
    · cases h
    next h2 =>
      split at h
      · cases h
      next h3 => exact ⟨Bool.eq_false_iff.mpr h1, Bool.eq_false_iff.mpr h2, Bool.eq_false_iff.mpr h3⟩
/-- how far a cell stands behind those that it needs -/
def rk (V : Vr) (c : Nat) : Nat := if wr V c = 0 then pc12 (wn V 12 c) else 0
theorem pc_lt {a b i : Nat} (h : bsb a b) (hi : i < 12) (h1 : b.testBit i = true) (h2 : a.testBit i = false) : pc12 a < pc12 b := by
  unfold pc12
  rw [flt_split (fun j => b.testBit j) (fun j => decide (j = i))]
  have e1 : 1 ≤ ((List.range 12).filter (fun j => b.testBit j && decide (j = i))).length := List.length_pos_of_mem (a := i) (List.mem_filter.mpr ⟨List.mem_range.mpr hi, by rw [h1]; simp⟩)
  have e2 : ((List.range 12).filter (fun j => a.testBit j)).length ≤ ((List.range 12).filter (fun j => b.testBit j && !decide (j = i))).length := flt_le (fun j _ hj => by
    have hj : a.testBit j = true := hj
    rcases Nat.decEq j i with hne | rfl
    · simp [h j hj, hne]
    · rw [h2] at hj; cases hj)
  omega
theorem rk_lt {V : Vr} {c c' : Nat} (h : wr V c = 0) (hd : (dim V c 16).testBit c' = true) (hc' : c' < 12) : rk V c' < rk V c := by
  have h1 := dim_wn V c 12 c' hd
  have e : rk V c = pc12 (wn V 12 c) := if_pos h
  rw [e]
  unfold rk
  split
  next g => exact pc_lt (wn_tr V 12 c' c hc' h1) hc' h1 (wr_0 g).2.1
  next =>
    refine Nat.lt_of_lt_of_le (pc_lt (a := 0) (b := wn V 12 c) (i := c') (fun i y => by rw [Nat.zero_testBit] at y; cases y) hc' h1 (Nat.zero_testBit _)) (Nat.le_refl _) |> fun y => Nat.lt_of_le_of_lt (Nat.zero_le _) y
theorem rk_11 {V : Vr} {c : Nat} (hc : c < 12) (h : wr V c = 0) : rk V c ≤ 11 := by
  have e : rk V c = pc12 (wn V 12 c) := if_pos h
  have h1 := (wr_0 h).2.1
  have h2 : pc12 (wn V 12 c) < pc12 (2 ^ 12 - 1) := pc_lt (i := c) (fun i y => by
    have := bits_lt (wn_lt V 12 c) i y
    rw [Nat.testBit_two_pow_sub_one]; exact decide_eq_true this) hc (by rw [Nat.testBit_two_pow_sub_one]; exact decide_eq_true hc) h1
  have h3 := pc_le (2 ^ 12 - 1)
  omega
theorem dim_12 {V : Vr} {c c' : Nat} (h : (dim V c 16).testBit c' = true) : c' < 12 := bits_lt (dim_lt V c 16) c' h
/-! The stale ones. -/
theorem stA_bit {V : Vr} {RR : Nat → Rs} {st0 : Nat} {I : Nat → Int64} {sd : Int32} (i : Nat) : ∀ n, (stA V RR st0 I sd n).testBit i = (decide (i < n) && (vcl V 12).testBit i && sti V RR st0 I sd i)
  | 0 => by
    show Nat.testBit 0 i = _
    rw [Nat.zero_testBit]
    simp
  | n + 1 => by
    have ih := stA_bit (V := V) (RR := RR) (st0 := st0) (I := I) (sd := sd) i n
    show Nat.testBit (if (vcl V 12).testBit n = true ∧ sti V RR st0 I sd n = true then stA V RR st0 I sd n ||| 2 ^ n else stA V RR st0 I sd n) i = _
    split
    next g =>
      rw [Nat.testBit_or, ih, Nat.testBit_two_pow]
      rcases Nat.lt_trichotomy i n with h | h | h
      · have h1 : ¬ n = i := by omega
        have h2 : i < n + 1 := by omega
        simp [h, h1, h2]
      · subst h
        simp [g.1, g.2]
      · have h1 : ¬ n = i := by omega
        have h2 : ¬ i < n + 1 := by omega
        have h3 : ¬ i < n := by omega
        simp [h1, h2, h3]
    next g =>
      rw [ih]
      rcases Nat.lt_trichotomy i n with h | h | h
      · have h2 : i < n + 1 := by omega
        simp [h, h2]
      · subst h
        have : ((vcl V 12).testBit i && sti V RR st0 I sd i) = false := by
          cases h1 : (vcl V 12).testBit i <;> cases h2 : sti V RR st0 I sd i <;> simp_all
        simp [this]
      · have h2 : ¬ i < n + 1 := by omega
        have h3 : ¬ i < n := by omega
        simp [h2, h3]
theorem stB_up {V : Vr} {m : Nat} : ∀ n, bsb m (stB V m n)
  | 0 => bsb_rf m
  | n + 1 => by
    show bsb m (if wr V n = 0 ∧ ¬ dim V n 16 &&& stB V m n = 0 then stB V m n ||| 2 ^ n else stB V m n)
    split
    · exact bsb_tr (stB_up n) (bsb_l _ _)
    · exact stB_up n
theorem and_ne {a b i : Nat} (h1 : a.testBit i = true) (h2 : b.testBit i = true) : ¬ a &&& b = 0 := fun y => by
  have : (a &&& b).testBit i = true := by rw [Nat.testBit_and, h1, h2]; rfl
  rw [y, Nat.zero_testBit] at this
  cases this
theorem ne_and {a b : Nat} (h : ¬ a &&& b = 0) : ∃ i, a.testBit i = true ∧ b.testBit i = true := by
  apply Classical.byContradiction
  intro y
  refine h (Nat.eq_of_testBit_eq (fun i => ?_))
  rw [Nat.zero_testBit, Nat.testBit_and]
  cases h1 : a.testBit i <;> cases h2 : b.testBit i <;> first | rfl | exact absurd ⟨i, h1, h2⟩ y
theorem stB_in {V : Vr} {m c c' : Nat} (hw : wr V c = 0) (hd : (dim V c 16).testBit c' = true) (hm : m.testBit c' = true) : ∀ n, c < n → (stB V m n).testBit c = true
  | 0, h => absurd h (Nat.not_lt_zero c)
  | n + 1, h => by
    show Nat.testBit (if wr V n = 0 ∧ ¬ dim V n 16 &&& stB V m n = 0 then stB V m n ||| 2 ^ n else stB V m n) c = true
    rcases Nat.lt_or_ge c n with g | g
    · have := stB_in hw hd hm n g
      split
      · exact bsb_l _ _ _ this
      · exact this
    · cases (show c = n by omega)
      rw [if_pos ⟨hw, and_ne hd (stB_up c c' hm)⟩, Nat.testBit_or, Nat.testBit_two_pow]
      simp
theorem stC_up {V : Vr} {m r : Nat} : ∀ k, bsb (stC V m r) (stC V m (r + k))
  | 0 => bsb_rf _
  | k + 1 => bsb_tr (stC_up k) (stB_up 12)
theorem stB_sup {V : Vr} {m i : Nat} : ∀ n, (stB V m n).testBit i = true → m.testBit i = true ∨ (wr V i = 0 ∧ ∃ c', (dim V i 16).testBit c' = true ∧ (stB V m n).testBit c' = true)
  | 0, h => Or.inl h
  | n + 1, h => by
    have e : stB V m (n + 1) = if wr V n = 0 ∧ ¬ dim V n 16 &&& stB V m n = 0 then stB V m n ||| 2 ^ n else stB V m n := rfl
    rw [e] at h ⊢
    split at h
    next g =>
      rw [if_pos g]
      rw [Nat.testBit_or, Bool.or_eq_true] at h
      rcases h with h | h
      · rcases stB_sup n h with y | ⟨y1, c', y2, y3⟩
        · exact Or.inl y
        · exact Or.inr ⟨y1, c', y2, bsb_l _ _ _ y3⟩
      · rw [Nat.testBit_two_pow] at h
        cases of_decide_eq_true h
        obtain ⟨c', y2, y3⟩ := ne_and g.2
        exact Or.inr ⟨g.1, c', y2, bsb_l _ _ _ y3⟩
    next g =>
      rw [if_neg g]
      exact stB_sup n h
theorem stC_sup {V : Vr} {m i : Nat} : ∀ r, (stC V m r).testBit i = true → m.testBit i = true ∨ (wr V i = 0 ∧ ∃ c', (dim V i 16).testBit c' = true ∧ (stC V m r).testBit c' = true)
  | 0, h => Or.inl h
  | r + 1, h => by
    rcases stB_sup 12 h with y | y
    · rcases stC_sup r y with w | ⟨w1, c', w2, w3⟩
      · exact Or.inl w
      · exact Or.inr ⟨w1, c', w2, stB_up 12 _ w3⟩
    · exact Or.inr y
/-- by its rank a stale cell is found -/
theorem stC_rk {V : Vr} {m : Nat} : ∀ (n c : Nat), rk V c = n → c < 12 → (stC V m 12).testBit c = true → (stC V m n).testBit c = true := by
  intro n
  induction n using Nat.strongRecOn with
  | _ n ih =>
    intro c hr hc h
    rcases stC_sup 12 h with y | ⟨y1, c', y2, y3⟩
    · have := stC_up (V := V) (m := m) (r := 0) n c y
      rw [Nat.zero_add] at this
      exact this
    · have h12 := dim_12 y2
      have hlt := rk_lt y1 y2 h12
      have h1 := ih (rk V c') (by omega) c' rfl h12 y3
      have h2 : (stC V m (rk V c' + 1)).testBit c = true := stB_in y1 y2 h1 12 hc
      have := stC_up (V := V) (m := m) (r := rk V c' + 1) (n - (rk V c' + 1)) c h2
      rw [show rk V c' + 1 + (n - (rk V c' + 1)) = n by omega] at this
      exact this
/-- what reads a stale cell is stale -/
theorem stC_cl {V : Vr} {m c c' : Nat} (hc : c < 12) (hw : wr V c = 0) (hd : (dim V c 16).testBit c' = true) (h : (stC V m 12).testBit c' = true) : (stC V m 12).testBit c = true := by
  have h12 := dim_12 hd
  have hlt := rk_lt hw hd h12
  have h11 := rk_11 hc hw
  have h1 := stC_rk (rk V c') c' rfl h12 h
  have h2 : (stC V m (rk V c' + 1)).testBit c = true := stB_in hw hd h1 12 hc
  have := stC_up (V := V) (m := m) (r := rk V c' + 1) (12 - (rk V c' + 1)) c h2
  rw [show rk V c' + 1 + (12 - (rk V c' + 1)) = 12 by omega] at this
  exact this
/-- stale: by itself, or by what it reads -/
theorem stl_iff {V : Vr} {RR : Nat → Rs} {st0 : Nat} {I : Nat → Int64} {sd : Int32} {c : Nat} (hc : c < 12) : (stC V (stA V RR st0 I sd 12) 12).testBit c = true ↔ ((V c).1 = true ∧ sti V RR st0 I sd c = true) ∨ (wr V c = 0 ∧ ∃ c', (dim V c 16).testBit c' = true ∧ (stC V (stA V RR st0 I sd 12) 12).testBit c' = true) := by
  constructor
  · intro h
    rcases stC_sup 12 h with y | y
    · rw [stA_bit, Bool.and_eq_true, Bool.and_eq_true, vcl_bit, Bool.and_eq_true] at y
      exact Or.inl ⟨y.1.2.2, y.2⟩
    · exact Or.inr y
  · rintro (⟨h1, h2⟩ | ⟨h1, c', h2, h3⟩)
    · have hb : (stA V RR st0 I sd 12).testBit c = true := by
        rw [stA_bit, vcl_bit, h1, h2, decide_eq_true hc]
        rfl
      have := stC_up (V := V) (m := stA V RR st0 I sd 12) (r := 0) 12 c hb
      exact this
    · exact stC_cl hc h1 h2 h3
/-! Settling ends with none left. -/
section SI2
variable {V : Vr} {I : Nat → Int64} {sd : Int32} {st0 : Nat}
theorem stS_p {c : Nat} {S : Sl} : (stS V I sd st0 c S).1 = S.1 ∨ (stS V I sd st0 c S).1 = nb_wo S.1 (2 ^ c) := by
  unfold stS
  split
  · split
    · exact Or.inr rfl
    · exact Or.inr rfl
  · exact Or.inl rfl
theorem wo2_bit {m c i : Nat} : (nb_wo m (2 ^ c)).testBit i = (m.testBit i && !decide (c = i)) := by rw [nb_wo_bit, Nat.testBit_two_pow]
theorem stS_sub {c : Nat} {S : Sl} : bsb (stS V I sd st0 c S).1 S.1 := by
  rcases stS_p (V := V) (I := I) (sd := sd) (st0 := st0) (c := c) (S := S) with h | h
  · rw [h]; exact bsb_rf _
  · rw [h]
    intro i y
    rw [wo2_bit, Bool.and_eq_true] at y
    exact y.1
theorem stR_sub {S : Sl} : ∀ n, bsb (stR V I sd st0 n S).1 S.1
  | 0 => bsb_rf _
  | n + 1 => bsb_tr stS_sub (stR_sub n)
theorem stR_sub2 {S : Sl} {n : Nat} : ∀ k, bsb (stR V I sd st0 (n + k) S).1 (stR V I sd st0 n S).1
  | 0 => bsb_rf _
  | k + 1 => bsb_tr stS_sub (stR_sub2 k)
/-- one that need not wait is done in its turn -/
theorem stR_done {S : Sl} {c : Nat} (hc : c < 12) (h : wr V c = 0 → ∀ c', (dim V c 16).testBit c' = true → S.1.testBit c' = false) : (stR V I sd st0 12 S).1.testBit c = false := by
  have h1 : (stR V I sd st0 (c + 1) S).1.testBit c = false := by
    obtain ⟨S1, hS1⟩ : ∃ S1, S1 = stR V I sd st0 c S := ⟨_, rfl⟩
    have e : stR V I sd st0 (c + 1) S = stS V I sd st0 c S1 := by rw [hS1]; rfl
    have hs : bsb S1.1 S.1 := by rw [hS1]; exact stR_sub c
    rw [e]
    unfold stS
    have hw : ¬ (wr V c = 0 ∧ ¬ dim V c 16 &&& S1.1 = 0) := by
      rintro ⟨y1, y2⟩
      obtain ⟨c', w1, w2⟩ := ne_and y2
      have := hs c' w2
      rw [h y1 c' w1] at this
      cases this
    by_cases hb : S1.1.testBit c = true
    · rw [if_pos ⟨hb, hw⟩]
      split
      · show (nb_wo S1.1 (2 ^ c)).testBit c = false
        rw [wo2_bit]; simp
      · show (nb_wo S1.1 (2 ^ c)).testBit c = false
        rw [wo2_bit]; simp
    · rw [if_neg (fun y => hb y.1)]
      exact Bool.eq_false_iff.mpr hb
  apply Bool.eq_false_iff.mpr
  intro y
  have := stR_sub2 (V := V) (I := I) (sd := sd) (st0 := st0) (S := S) (n := c + 1) (12 - (c + 1)) c
  rw [show c + 1 + (12 - (c + 1)) = 12 by omega] at this
  rw [this y] at h1
  cases h1
theorem stT_sub {S : Sl} : ∀ r, bsb (stT V I sd st0 r S).1 S.1
  | 0 => bsb_rf _
  | r + 1 => bsb_tr (stR_sub 12) (stT_sub r)
theorem stT_rk {S : Sl} (h12 : S.1 < 2 ^ 12) : ∀ r, 1 ≤ r → ∀ c, (stT V I sd st0 r S).1.testBit c = true → c < 12 ∧ wr V c = 0 ∧ r ≤ rk V c
  | 0, h, _, _ => absurd h (by omega)
  | r + 1, _, c, h => by
    have hs : bsb (stT V I sd st0 r S).1 S.1 := by
      exact stT_sub r
    have hc : c < 12 := bits_lt h12 c (hs c (stR_sub 12 c h))
    have h : (stR V I sd st0 12 (stT V I sd st0 r S)).1.testBit c = true := h
    apply Classical.byContradiction
    intro hn
    have hd := stR_done (V := V) (I := I) (sd := sd) (st0 := st0) (S := stT V I sd st0 r S) hc (fun hw c' hd => ?_)
    · rw [hd] at h; cases h
    · apply Bool.eq_false_iff.mpr
      intro y
      have h12' := dim_12 hd
      have hlt := rk_lt hw hd h12'
      rcases Nat.eq_zero_or_pos r with rfl | hr
      · exact hn ⟨hc, hw, by omega⟩
      · have := (stT_rk h12 r hr c' y).2.2
        exact hn ⟨hc, hw, by omega⟩
/-- what holds at first, and through each cell's turn, holds when all are settled -/
theorem stl_ind {w : Nat} {Y : Yr} (J : Sl → Prop) (h0 : J (w &&& vcl V 12, 0, Y)) (hs : ∀ c S, c < 12 → J S → S.1.testBit c = true → (wr V c = 0 → ∀ c', (dim V c 16).testBit c' = true → S.1.testBit c' = false) → J (stS V I sd st0 c S)) : J (stl V I sd st0 w Y) ∧ (stl V I sd st0 w Y).1 = 0 := by
  have step : ∀ c S, c < 12 → J S → J (stS V I sd st0 c S) := fun c S hc hJ => by
    by_cases hb : S.1.testBit c = true ∧ ¬ (wr V c = 0 ∧ ¬ dim V c 16 &&& S.1 = 0)
    · refine hs c S hc hJ hb.1 (fun hw c' hd => Bool.eq_false_iff.mpr (fun y => hb.2 ⟨hw, and_ne hd y⟩))
    · have e : stS V I sd st0 c S = S := if_neg hb
      rw [e]; exact hJ
  have round : ∀ S, J S → ∀ n, n ≤ 12 → J (stR V I sd st0 n S) := fun S hJ n => by
    induction n with
    | zero => exact fun _ => hJ
    | succ n ih => exact fun hn => step n _ (by omega) (ih (by omega))
  have all : ∀ r, J (stT V I sd st0 r (w &&& vcl V 12, 0, Y)) := fun r => by
    induction r with
    | zero => exact h0
    | succ r ih => exact round _ ih 12 (Nat.le_refl _)
  refine ⟨all 12, ?_⟩
  have hlt : (w &&& vcl V 12) < 2 ^ 12 := Nat.lt_of_le_of_lt Nat.and_le_right (vcl_lt V 12)
  refine Nat.eq_of_testBit_eq (fun i => ?_)
  rw [Nat.zero_testBit]
  apply Bool.eq_false_iff.mpr
  intro y
  obtain ⟨h1, h2, h3⟩ := stT_rk (S := (w &&& vcl V 12, 0, Y)) hlt 12 (by omega) i y
  have := rk_11 h1 h2
  omega
end SI2
