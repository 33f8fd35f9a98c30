/-! What a run comes to, as a function of what it is made from. -/
def inx : Tr → Nat → Prop
  | .leaf, _ => False
  | .inner _ l _ a b, i => (l.1 = 2 ∧ l.2.1 = i) ∨ inx a i ∨ inx b i
def drx : Tr → Prop
  | .leaf => False
  | .inner _ l _ a b => l.1 = 3 ∨ drx a ∨ drx b
/-- the same but for the numbers of functions (related by P) and runs; the functions' exprs are as Q says -/
def rlt (P : Nat → Nat → Prop) (Q : Tr → Prop) : Tr → Tr → Prop
  | .leaf, .leaf => True
  | .inner k l _ a b, .inner k' l' _ a' b' => k = k' ∧ l.2.2 = l'.2.2 ∧ (k = 3 → P l.1 l'.1 ∧ a = a' ∧ Q a ∧ rlt P Q b b') ∧ (k = 4 → l.1 = l'.1 ∧ rlt P Q a a' ∧ rlt P Q b b') ∧ (¬ k = 3 → ¬ k = 4 → l = l' ∧ a = a' ∧ b = b')
  | .leaf, .inner _ _ _ _ _ => False
  | .inner _ _ _ _ _, .leaf => False
theorem rlt_mono {P P' : Nat → Nat → Prop} {Q Q' : Tr → Prop} (hP : ∀ a b, P a b → P' a b) (hQ : ∀ e, Q e → Q' e) : ∀ {t t' : Tr}, rlt P Q t t' → rlt P' Q' t t'
  | .leaf, .leaf, _ => trivial
  | .inner k l u a b, .inner k' l' u' a' b', h => ⟨h.1, h.2.1, fun y => ⟨hP _ _ (h.2.2.1 y).1, (h.2.2.1 y).2.1, hQ _ (h.2.2.1 y).2.2.1, rlt_mono hP hQ (h.2.2.1 y).2.2.2⟩, fun y => ⟨(h.2.2.2.1 y).1, rlt_mono hP hQ (h.2.2.2.1 y).2.1, rlt_mono hP hQ (h.2.2.2.1 y).2.2⟩, h.2.2.2.2⟩
  | .leaf, .inner _ _ _ _ _, h => absurd h id
  | .inner _ _ _ _ _, .leaf, h => absurd h id
/-- what exprs that a run meets must be like -/
def qok (I I' : Nat → Int64) (sd sd' : Int32) (Q : Tr → Prop) : Prop := ∀ e, Q e → Q (pa e) ∧ Q (pb e) ∧ Q (pc e) ∧ (srt e = 2 → I (wch e) = I' (wch e)) ∧ (srt e = 3 → sd = sd')
def agr (I I' : Nat → Int64) (sd sd' : Int32) (e : Tr) : Prop := (∀ i, inx e i → I i = I' i) ∧ (drx e → sd = sd')
theorem qok_agr (I I' : Nat → Int64) (sd sd' : Int32) : qok I I' sd sd' (agr I I' sd sd') := by
  intro e h
  match e, h with
  | .leaf, h => exact ⟨h, h, h, fun y => (by cases y), fun y => (by cases y)⟩
  | .inner k l u a .leaf, h => exact ⟨⟨fun i y => h.1 i (Or.inr (Or.inl y)), fun y => h.2 (Or.inr (Or.inl y))⟩, ⟨fun i y => absurd y id, fun y => absurd y id⟩, ⟨fun i y => absurd y id, fun y => absurd y id⟩, fun y => h.1 _ (Or.inl ⟨y, rfl⟩), fun y => h.2 (Or.inl y)⟩
  | .inner k l u a (.inner k2 l2 u2 b c), h => exact ⟨⟨fun i y => h.1 i (Or.inr (Or.inl y)), fun y => h.2 (Or.inr (Or.inl y))⟩, ⟨fun i y => h.1 i (Or.inr (Or.inr (Or.inr (Or.inl y)))), fun y => h.2 (Or.inr (Or.inr (Or.inr (Or.inl y))))⟩, ⟨fun i y => h.1 i (Or.inr (Or.inr (Or.inr (Or.inr y)))), fun y => h.2 (Or.inr (Or.inr (Or.inr (Or.inr y))))⟩, fun y => h.1 _ (Or.inl ⟨y, rfl⟩), fun y => h.2 (Or.inl y)⟩
/-- scopes, to their ends -/
def scp : Tr → Bool
  | .leaf => true
  | .inner k _ _ _ b => k == 4 && scp b
theorem rlt_lk {P : Nat → Nat → Prop} {Q : Tr → Prop} {n : Nat} : ∀ {s s' : Tr}, scp s = true → rlt P Q s s' → (lku n s = none ∧ lku n s' = none) ∨ ∃ v v', lku n s = some v ∧ lku n s' = some v' ∧ rlt P Q v v'
  | .leaf, .leaf, _, _ => Or.inl ⟨rfl, rfl⟩
  | .inner k l u a b, .inner k' l' u' a' b', hs, h => by
    have hs : (k == 4 && scp b) = true := hs
    rw [Bool.and_eq_true, beq_iff_eq] at hs
    obtain ⟨h1, h2, h3⟩ := h.2.2.2.1 hs.1
    unfold lku
    rw [← h1]
    split
    · exact Or.inr ⟨a, a', rfl, rfl, h2⟩
    · exact rlt_lk hs.2 h3
  | .leaf, .inner _ _ _ _ _, _, h => absurd h id
  | .inner _ _ _ _ _, .leaf, _, h => absurd h id
/-- values: numbers, functions whose scopes are scopes -/
def isN : Tr → Bool
  | .leaf => false
  | .inner k l _ a b => k == 2 && l.1 == 0 && l.2.1 == 0 && isL a && isL b
theorem isN_t {t : Tr} (h : isN t = true) : t = tN (num t) := by
  match t, h with
  | .inner k l u a b, h =>
    obtain ⟨l1, l2, l3⟩ := l
    unfold isN at h
    simp only [Bool.and_eq_true, beq_iff_eq] at h
    obtain ⟨⟨⟨⟨h1, h2⟩, h3⟩, h4⟩, h5⟩ := h
    match a, b, h4, h5 with
    | .leaf, .leaf, _, _ =>
      subst h1
      have h2 : l1 = 0 := h2
      have h3 : l2 = 0 := h3
      subst h2; subst h3
      rfl
def vok : Tr → Bool
  | .leaf => true
  | .inner k _ _ a b => if k = 3 then scp b && vok b else if k = 4 then (isC a || isN a) && vok a && vok b else true
def vl9 (t : Tr) : Bool := (isC t || isN t) && vok t
theorem vl9_C {st rid : Nat} {e s : Tr} (h1 : vok s = true) (h2 : scp s = true) : vl9 (tC st rid e s) = true := by
  show ((true || isN (tC st rid e s)) && (if (3 : Nat) = 3 then scp s && vok s else if (3 : Nat) = 4 then (isC e || isN e) && vok e && vok s else true)) = true
  rw [if_pos rfl, h1, h2]
  rfl
theorem vok_B {n rid : Nat} {v s : Tr} (h1 : vl9 v = true) (h2 : vok s = true) : vok (tB n rid v s) = true := by
  show (if (4 : Nat) = 3 then scp s && vok s else if (4 : Nat) = 4 then (isC v || isN v) && vok v && vok s else true) = true
  rw [if_neg (by decide), if_pos rfl, h2]
  unfold vl9 at h1
  rw [h1]
  rfl
theorem vok_3 {k : Nat} {l : Nat × Nat × Int64} {u : Unit} {a b : Tr} (h : vl9 (.inner k l u a b) = true) (hk : k = 3) : scp b = true ∧ vok b = true := by
  unfold vl9 at h
  have h := (Bool.and_eq_true_iff.mp h).2
  have h : (if k = 3 then scp b && vok b else if k = 4 then (isC a || isN a) && vok a && vok b else true) = true := h
  rw [if_pos hk] at h
  exact Bool.and_eq_true_iff.mp h
theorem vok_4 {k : Nat} {l : Nat × Nat × Int64} {u : Unit} {a b : Tr} (h : vok (.inner k l u a b) = true) (hk : k = 4) : vl9 a = true ∧ vok b = true := by
  have h : (if k = 3 then scp b && vok b else if k = 4 then (isC a || isN a) && vok a && vok b else true) = true := h
  rw [if_neg (by omega), if_pos hk] at h
  exact Bool.and_eq_true_iff.mp h
def eV (P : Nat → Nat → Prop) (Q : Tr → Prop) (t t' : Tr) : Prop := rlt P Q t t' ∧ vl9 t = true
def eE (P : Nat → Nat → Prop) (Q : Tr → Prop) (t t' : Tr) : Prop := rlt P Q t t' ∧ vok t = true ∧ scp t = true
theorem vok_lku {n : Nat} : ∀ {s v : Tr}, scp s = true → vok s = true → lku n s = some v → vl9 v = true
  | .leaf, v, _, _, h => by cases h
  | .inner k l u a b, v, hs, hv, h => by
    have hs : (k == 4 && scp b) = true := hs
    rw [Bool.and_eq_true, beq_iff_eq] at hs
    have hv := vok_4 hv hs.1
    unfold lku at h
    split at h
    · cases h; exact hv.1
    · exact vok_lku hs.2 hv.2 h
theorem lrw_rlt {I I' : Nat → Int64} {sd sd' : Int32} {rid rid' B B' : Nat} {P : Nat → Nat → Prop} {Q : Tr → Prop} (hQ : qok I I' sd sd' Q) (hP : ∀ k, P (B + k) (B' + k)) : lrw I I' sd sd' rid rid' B B' (eV P Q) (eE P Q) (eqP Q) := by
  refine ⟨?_, ?_, ?_, fun n => ⟨⟨rfl, rfl, fun y => (by cases y), fun y => (by cases y), fun _ _ => ⟨rfl, rfl, rfl⟩⟩, rfl⟩, ?_, ?_, ?_, ?_, ?_⟩
  · rintro e _ ⟨rfl, h⟩
    obtain ⟨h1, h2, h3, -⟩ := hQ e h
    exact ⟨rfl, rfl, rfl, rfl, ⟨rfl, h1⟩, ⟨rfl, h2⟩, ⟨rfl, h3⟩⟩
  · rintro e _ ⟨rfl, h⟩ y
    exact (hQ e h).2.2.2.1 y
  · rintro e _ ⟨rfl, h⟩ y
    exact (hQ e h).2.2.2.2 y
  · rintro v v' ⟨h, -⟩
    match v, v', h with
    | .leaf, .leaf, _ => exact ⟨rfl, fun _ => rfl⟩
    | .inner k l u a b, .inner k' l' u' a' b', h =>
      refine ⟨?_, fun _ => h.2.1⟩
      show (k == 3) = (k' == 3)
      rw [h.1]
  · rintro v v' ⟨h, hv⟩ hc
    match v, v', h, hv, hc with
    | .inner k l u a b, .inner k' l' u' a' b', h, hv, hc =>
      have hk : k = 3 := beq_iff_eq.mp hc
      obtain ⟨h1, h2, h3, h4⟩ := h.2.2.1 hk
      have hv := vok_3 hv hk
      exact ⟨⟨h2, h3⟩, ⟨h4, hv.2, hv.1⟩⟩
  · rintro e _ s s' k ⟨rfl, h⟩ ⟨h1, h2, h3⟩ _
    refine ⟨⟨rfl, rfl, fun _ => ⟨hP k, rfl, h, h1⟩, fun y => (by cases y), fun y _ => absurd rfl y⟩, vl9_C h2 h3⟩
  · rintro n v v' s s' ⟨h1, h2⟩ ⟨h3, h4, h5⟩
    refine ⟨⟨rfl, rfl, fun y => (by cases y), fun _ => ⟨rfl, h1, h3⟩, fun _ y => absurd rfl y⟩, vok_B h2 h4, ?_⟩
    · show ((4 : Nat) == 4 && scp s) = true
      rw [h5]
      rfl
  · rintro n s s' ⟨h1, h2, h3⟩
    rcases rlt_lk (n := n) h3 h1 with y | ⟨v, v', y1, y2, y3⟩
    · exact Or.inl y
    · exact Or.inr ⟨v, v', y1, y2, y3, vok_lku h3 h2 y1⟩
/-- the scope of what is read -/
def enW (m : Nat) (W : Nat → Option Tr) (rid : Nat) : Nat → Tr × Bool
  | 0 => (.leaf, true)
  | n + 1 => if m.testBit n = true then (match W n with
    | none => ((enW m W rid n).1, false)
    | some v => (tB n rid v (enW m W rid n).1, (enW m W rid n).2)) else enW m W rid n
theorem enW_1 {m rid n : Nat} {W : Nat → Option Tr} {v : Tr} (h : m.testBit n = true) (hw : W n = some v) : enW m W rid (n + 1) = (tB n rid v (enW m W rid n).1, (enW m W rid n).2) := by
  show (if m.testBit n = true then _ else _) = _
  rw [if_pos h, hw]
theorem enW_0 {m rid n : Nat} {W : Nat → Option Tr} (h : m.testBit n = true) (hw : W n = none) : enW m W rid (n + 1) = ((enW m W rid n).1, false) := by
  show (if m.testBit n = true then _ else _) = _
  rw [if_pos h, hw]
theorem enW_n {m rid n : Nat} {W : Nat → Option Tr} (h : ¬ m.testBit n = true) : enW m W rid (n + 1) = enW m W rid n := if_neg h
theorem enW_cong {m rid : Nat} {W W' : Nat → Option Tr} : ∀ n, (∀ k, k < n → m.testBit k = true → W k = W' k) → enW m W rid n = enW m W' rid n
  | 0, _ => rfl
  | n + 1, h => by
    have ih := enW_cong (rid := rid) n (fun k hk => h k (by omega))
    by_cases hb : m.testBit n = true
    · have e := h n (by omega) hb
      cases hw : W' n with
      | none => rw [enW_0 hb (e.trans hw), enW_0 hb hw, ih]
      | some v => rw [enW_1 hb (e.trans hw), enW_1 hb hw, ih]
    · rw [enW_n hb, enW_n hb, ih]
/-- error, what is kept, the next function's number -/
def outC (C : Cd) (I : Nat → Int64) (sd : Int32) (cl : Nat) (W : Nat → Option Tr) (B rid : Nat) : Int32 × Cd × Nat :=
  if (enW (rds C) W rid 16).2 = true then (match (rnL I sd cl rid C (enW (rds C) W rid 16).1 [] 0 0 B).1 with
    | some K => (0, K, (rnL I sd cl rid C (enW (rds C) W rid 16).1 [] 0 0 B).2)
    | none => (4, [], (rnL I sd cl rid C (enW (rds C) W rid 16).1 [] 0 0 B).2)) else (5, [], B)
def oR (RV : Tr → Tr → Prop) (o o' : Option Tr) : Prop := (o = none ∧ o' = none) ∨ ∃ v v', o = some v ∧ o' = some v' ∧ RV v v'
section OU
variable {I I' : Nat → Int64} {sd sd' : Int32} {cl rid rid' B B' : Nat} {RV RE RC : Tr → Tr → Prop} {C : Cd} {W W' : Nat → Option Tr}
theorem enW_R (w : lrw I I' sd sd' rid rid' B B' RV RE RC) (hl : RE .leaf .leaf) {m : Nat} : ∀ n, (∀ k, k < n → m.testBit k = true → oR RV (W k) (W' k)) → RE (enW m W rid n).1 (enW m W' rid' n).1 ∧ (enW m W rid n).2 = (enW m W' rid' n).2
  | 0, _ => ⟨hl, rfl⟩
  | n + 1, h => by
    obtain ⟨i1, i2⟩ := enW_R w hl (m := m) n (fun k hk => h k (by omega))
    by_cases hb : m.testBit n = true
    · rcases h n (by omega) hb with ⟨h1, h2⟩ | ⟨v, v', h1, h2, h3⟩
      · rw [enW_0 hb h1, enW_0 hb h2]; exact ⟨i1, rfl⟩
      · rw [enW_1 hb h1, enW_1 hb h2]; exact ⟨w.2.2.2.2.2.2.2.1 _ _ _ _ _ h3 i1, i2⟩
    · rw [enW_n hb, enW_n hb]; exact ⟨i1, i2⟩
theorem outC_R (w : lrw I I' sd sd' rid rid' B B' RV RE RC) (hl : RE .leaf .leaf) (hC : lK RC C C) (hW : ∀ k, k < 16 → (rds C).testBit k = true → oR RV (W k) (W' k)) : (outC C I sd cl W B rid).1 = (outC C I' sd' cl W' B' rid').1 ∧ lK RV (outC C I sd cl W B rid).2.1 (outC C I' sd' cl W' B' rid').2.1 ∧ ∃ k, (outC C I sd cl W B rid).2.2 = B + k ∧ (outC C I' sd' cl W' B' rid').2.2 = B' + k := by
  obtain ⟨h1, h2⟩ := enW_R w hl (m := rds C) 16 hW
  obtain ⟨k1, k2, k3, k4⟩ := rnL_R (cl := cl) w C C hC _ _ [] [] 0 0 0 h1 trivial
  have k3 : (rnL I sd cl rid C (enW (rds C) W rid 16).1 [] 0 0 B).2 = B + k2 := k3
  have k4 : (rnL I' sd' cl rid' C (enW (rds C) W' rid' 16).1 [] 0 0 B').2 = B' + k2 := k4
  have k1 : lKo RV (rnL I sd cl rid C (enW (rds C) W rid 16).1 [] 0 0 B).1 (rnL I' sd' cl rid' C (enW (rds C) W' rid' 16).1 [] 0 0 B').1 := k1
  unfold outC
  rw [← h2]
  split
  · rcases k1 with ⟨y1, y2⟩ | ⟨K, K', y1, y2, y3⟩
    · rw [y1, y2]; exact ⟨rfl, trivial, k2, k3, k4⟩
    · rw [y1, y2]; exact ⟨rfl, y3, k2, k3, k4⟩
  · exact ⟨rfl, trivial, 0, rfl, rfl⟩
theorem outC_cong (h : ∀ k, k < 16 → (rds C).testBit k = true → W k = W' k) : outC C I sd cl W B rid = outC C I sd cl W' B rid := by
  unfold outC
  rw [enW_cong 16 h]
end OU
theorem vin_cong {V : Vr} {RR RR' : Nat → Rs} {st0 n : Nat} (h : ∀ c, ow V n 12 = some c → (RR (st0 + c)).1 = (RR' (st0 + c)).1 ∧ rK (RR (st0 + c)) = rK (RR' (st0 + c))) : vin V RR st0 n = vin V RR' st0 n := by
  unfold vin src
  cases ho : ow V n 12 with
  | none => rfl
  | some c =>
    obtain ⟨h1, h2⟩ := h c ho
    dsimp only
    rw [h1]
    split
    · show lkp n (rK (RR (st0 + c))) = lkp n (rK (RR' (st0 + c)))
      rw [h2]
    · rfl
theorem dfm_bit (V : Vr) (n i : Nat) : ∀ k, (dfm V n k).testBit i = (decide (i < k) && (dfd (V i).2).testBit n)
  | 0 => by
    show Nat.testBit 0 i = _
    rw [Nat.zero_testBit]
    simp
  | k + 1 => by
    rw [dfm_s, Nat.testBit_or, dfm_bit V n i k]
    have e : Nat.testBit (if (dfd (V k).2).testBit n = true then 2 ^ k else 0) i = (decide (i = k) && (dfd (V k).2).testBit n) := if_bit
    rw [e]
    rcases Nat.lt_trichotomy i k with h | h | h
    · have h1 : ¬ i = k := by omega
      have h2 : i < k + 1 := by omega
      simp [h, h1, h2]
    · subst h
      simp
    · have h1 : ¬ i = k := by omega
      have h2 : ¬ i < k + 1 := by omega
      have h3 : ¬ i < k := by omega
      simp [h1, h2, h3]
theorem dim_bit (V : Vr) (c i : Nat) : ∀ k, (dim V c k).testBit i = true ↔ ∃ n, n < k ∧ (rds (V c).2).testBit n = true ∧ (dfm V n 12).testBit i = true
  | 0 => by
    show Nat.testBit 0 i = true ↔ _
    rw [Nat.zero_testBit]
    simp
  | k + 1 => by
    show Nat.testBit (dim V c k ||| (if (rds (V c).2).testBit k = true then dfm V k 12 else 0)) i = true ↔ _
    rw [Nat.testBit_or, Bool.or_eq_true, dim_bit V c i k]
    constructor
    · rintro (⟨n, h1, h2, h3⟩ | h)
      · exact ⟨n, by omega, h2, h3⟩
      · split at h
        next g => exact ⟨k, by omega, g, h⟩
        next => rw [Nat.zero_testBit] at h; cases h
    · rintro ⟨n, h1, h2, h3⟩
      rcases Nat.lt_or_ge n k with g | g
      · exact Or.inl ⟨n, g, h2, h3⟩
      · cases (show n = k by omega)
        rw [if_pos h2]
        exact Or.inr h3
theorem ow_dfd {V : Vr} {n c : Nat} : ∀ {k : Nat}, ow V n k = some c → (dfd (V c).2).testBit n = true
  | 0, h => by cases h
  | k + 1, h => by
    unfold ow at h
    split at h
    · exact ow_dfd h
    · split at h
      next g1 g2 =>
        cases h
        rw [dfd_bit]
        simp [g2.1]
      next => cases h
/-- the owner of a name that is read is needed -/
theorem ow_dim {V : Vr} {c n c' : Nat} (hn : n < 16) (hr : (rds (V c).2).testBit n = true) (ho : ow V n 12 = some c') : (dim V c 16).testBit c' = true := by
  rw [dim_bit]
  refine ⟨n, hn, hr, ?_⟩
  rw [dfm_bit, ow_dfd ho, decide_eq_true (ow_lt ho)]
  rfl
theorem ow_ne {V : Vr} {c n c' : Nat} (hw : wr V c = 0) (hn : n < 16) (hr : (rds (V c).2).testBit n = true) (ho : ow V n 12 = some c') : ¬ c' = c := fun y => by
  subst y
  have := dim_wn V c' 12 c' (ow_dim hn hr ho)
  rw [(wr_0 hw).2.1] at this
  cases this
theorem rdA_en {V : Vr} {RR0 : Nat → Rs} {st0 c rid : Nat} : ∀ n, (rdA V st0 c rid n (RR0, .leaf, true)).2 = enW (rds (V c).2) (fun k => vin V RR0 st0 k) rid n ∧ (rdA V st0 c rid n (RR0, .leaf, true)).1 (st0 + c) = ((RR0 (st0 + c)).1, (RR0 (st0 + c)).2.1, rK (RR0 (st0 + c)), rC (RR0 (st0 + c)), rI (RR0 (st0 + c)), rS (RR0 (st0 + c)), fun k => if k < n ∧ (rds (V c).2).testBit k = true then vin V RR0 st0 k else rW (RR0 (st0 + c)) k)
  | 0 => ⟨rfl, by
    have e : (fun k => if k < 0 ∧ (rds (V c).2).testBit k = true then vin V RR0 st0 k else rW (RR0 (st0 + c)) k) = rW (RR0 (st0 + c)) := by
      funext k
      rw [if_neg (fun y => absurd y.1 (Nat.not_lt_zero k))]
    rw [e]
    rfl⟩
  | n + 1 => by
    obtain ⟨i1, i2⟩ := rdA_en (V := V) (RR0 := RR0) (st0 := st0) (c := c) (rid := rid) n
    obtain ⟨a1, a2, a3⟩ := rdA_i (V := V) (st0 := st0) (c := c) (rid := rid) (Y := (RR0, .leaf, true)) n
    have e : rdA V st0 c rid (n + 1) (RR0, .leaf, true) = rdN V st0 c rid n (rdA V st0 c rid n (RR0, .leaf, true)) := rfl
    rw [e]
    obtain ⟨Z, hZ⟩ : ∃ Z, Z = rdA V st0 c rid n (RR0, .leaf, true) := ⟨_, rfl⟩
    rw [← hZ] at i1 i2 a1 a2 a3 ⊢
    have ev : vin V Z.1 st0 n = vin V RR0 st0 n := vin_cong (fun c' _ => ⟨a2 _, a1 _⟩)
    by_cases hb : (rds (V c).2).testBit n = true
    · have sn : ∀ v, v = vin V RR0 st0 n → sen Z.1 (st0 + c) n v (st0 + c) = ((RR0 (st0 + c)).1, (RR0 (st0 + c)).2.1, rK (RR0 (st0 + c)), rC (RR0 (st0 + c)), rI (RR0 (st0 + c)), rS (RR0 (st0 + c)), fun k => if k < n + 1 ∧ (rds (V c).2).testBit k = true then vin V RR0 st0 k else rW (RR0 (st0 + c)) k) := fun v hv => by
        unfold sen
        rw [if_pos rfl, i2]
        refine congrArg (fun f => ((RR0 (st0 + c)).1, (RR0 (st0 + c)).2.1, rK (RR0 (st0 + c)), rC (RR0 (st0 + c)), rI (RR0 (st0 + c)), rS (RR0 (st0 + c)), f)) ?_
        funext k
        show (if k = n then v else if k < n ∧ (rds (V c).2).testBit k = true then vin V RR0 st0 k else rW (RR0 (st0 + c)) k) = _
        rcases Nat.decEq k n with g | rfl
        · rw [if_neg g]
          by_cases hk : k < n ∧ (rds (V c).2).testBit k = true
          · rw [if_pos hk, if_pos ⟨by omega, hk.2⟩]
          · rw [if_neg hk, if_neg (fun y => hk ⟨by omega, y.2⟩)]
        · rw [if_pos rfl, if_pos ⟨Nat.lt_succ_self k, hb⟩, hv]
      cases hv : vin V Z.1 st0 n with
      | none =>
        rw [rdN_0 hb hv, enW_0 hb (ev.symm.trans hv), ← i1]
        exact ⟨rfl, sn none (hv.symm.trans ev)⟩
      | some v =>
        rw [rdN_1 hb hv, enW_1 hb (ev.symm.trans hv), ← i1]
        exact ⟨rfl, sn (some v) (hv.symm.trans ev)⟩
    · have e2 : rdN V st0 c rid n Z = Z := if_neg hb
      rw [e2, enW_n hb, i1, i2]
      refine ⟨rfl, congrArg (fun f => ((RR0 (st0 + c)).1, (RR0 (st0 + c)).2.1, rK (RR0 (st0 + c)), rC (RR0 (st0 + c)), rI (RR0 (st0 + c)), rS (RR0 (st0 + c)), f)) ?_⟩
      funext k
      by_cases hk : k < n ∧ (rds (V c).2).testBit k = true
      · rw [if_pos hk, if_pos ⟨by omega, hk.2⟩]
      · rw [if_neg hk, if_neg (fun y => hk ⟨?_, y.2⟩)]
        rcases Nat.lt_or_ge k n with g | g
        · exact g
        · cases (show k = n by omega)
          exact absurd y.2 hb
/-- a run's result -/
def rRn (V : Vr) (I : Nat → Int64) (sd : Int32) (st0 c : Nat) (Y : Yr) : Rs := ((outC (V c).2 I sd c (vin V Y.1 st0) Y.2.1 Y.2.2).1, (Y.1 (st0 + c)).2.1 + 1, (outC (V c).2 I sd c (vin V Y.1 st0) Y.2.1 Y.2.2).2.1, (V c).2, (fun k => if k < 4 then I k else rI (Y.1 (st0 + c)) k), sd, fun k => if k < 16 ∧ (rds (V c).2).testBit k = true then vin V Y.1 st0 k else rW (Y.1 (st0 + c)) k)
theorem rUp_cong {f g : Nat → Rs} {i : Nat} {R : Rs} (h : ∀ j, ¬ j = i → f j = g j) : rUp f i R = rUp g i R := by
  funext j
  unfold rUp
  split
  · rfl
  next hj => exact h j hj
theorem rOn_right {V : Vr} {I : Nat → Int64} {sd : Int32} {st0 c : Nat} {Y : Yr} (hw : wr V c = 0) : rOn V I sd st0 c Y = (rUp Y.1 (st0 + c) (rRn V I sd st0 c Y), (outC (V c).2 I sd c (vin V Y.1 st0) Y.2.1 Y.2.2).2.2, Y.2.2 + 1) := by
  obtain ⟨e1, e2⟩ := rdA_en (V := V) (RR0 := rO0 Y.1 (st0 + c) (V c).2 I sd) (st0 := st0) (c := c) (rid := Y.2.2) 16
  have ev : ∀ k, k < 16 → (rds (V c).2).testBit k = true → vin V (rO0 Y.1 (st0 + c) (V c).2 I sd) st0 k = vin V Y.1 st0 k := fun k hk hb => vin_cong (fun c' ho => by
    have hne := ow_ne hw hk hb ho
    have : rO0 Y.1 (st0 + c) (V c).2 I sd (st0 + c') = Y.1 (st0 + c') := rUp_n (by omega)
    rw [this]
    exact ⟨rfl, rfl⟩)
  have eE : enW (rds (V c).2) (fun k => vin V (rO0 Y.1 (st0 + c) (V c).2 I sd) st0 k) Y.2.2 16 = enW (rds (V c).2) (vin V Y.1 st0) Y.2.2 16 := enW_cong 16 ev
  have hZ : (rOz V I sd st0 c Y).2 = enW (rds (V c).2) (vin V Y.1 st0) Y.2.2 16 := e1.trans eE
  have hZ1 : (rOz V I sd st0 c Y).1 (st0 + c) = (0, (Y.1 (st0 + c)).2.1 + 1, [], (V c).2, (fun k => if k < 4 then I k else rI (Y.1 (st0 + c)) k), sd, fun k => if k < 16 ∧ (rds (V c).2).testBit k = true then vin V Y.1 st0 k else rW (Y.1 (st0 + c)) k) := by
    refine Eq.trans e2 ?_
    have e0 : rO0 Y.1 (st0 + c) (V c).2 I sd (st0 + c) = rBe (Y.1 (st0 + c)) (V c).2 I sd := rUp_s
    rw [e0]
    refine congrArg (fun f => ((0 : Int32), (Y.1 (st0 + c)).2.1 + 1, ([] : Cd), (V c).2, (fun k => if k < 4 then I k else rI (Y.1 (st0 + c)) k), sd, f)) ?_
    funext k
    by_cases hk : k < 16 ∧ (rds (V c).2).testBit k = true
    · rw [if_pos hk, if_pos hk, ev k hk.1 hk.2]
    · rw [if_neg hk, if_neg hk]
      rfl
  have hZo : ∀ j, ¬ j = st0 + c → (rOz V I sd st0 c Y).1 j = Y.1 j := fun j hj => ((rdA_i (V := V) (st0 := st0) (c := c) (rid := Y.2.2) (Y := (rO0 Y.1 (st0 + c) (V c).2 I sd, .leaf, true)) 16).2.2 j hj).trans (rUp_n hj)
  have eO : rOl V I sd st0 c Y = rnL I sd c Y.2.2 (V c).2 (enW (rds (V c).2) (vin V Y.1 st0) Y.2.2 16).1 [] 0 0 Y.2.1 := by
    show rnL I sd c Y.2.2 (V c).2 (rOz V I sd st0 c Y).2.1 [] 0 0 Y.2.1 = _
    rw [hZ]
  rcases rOn_cases V I sd st0 c Y with ⟨h, -⟩ | ⟨-, hf, e⟩ | ⟨-, hf, e⟩
  · exact absurd hw h
  · rw [e]
    have ho : outC (V c).2 I sd c (vin V Y.1 st0) Y.2.1 Y.2.2 = (5, [], Y.2.1) := by
      unfold outC
      rw [← hZ, if_neg (by rw [hf]; decide)]
    unfold rRn
    rw [ho]
    refine Prod.ext ?_ rfl
    show rUp _ _ _ = _
    rw [rUp_cong hZo, hZ1]
    rfl
  · rw [e, eO]
    have hf' : (enW (rds (V c).2) (vin V Y.1 st0) Y.2.2 16).2 = true := by rw [← hZ]; exact hf
    obtain ⟨O, hO⟩ : ∃ O, O = rnL I sd c Y.2.2 (V c).2 (enW (rds (V c).2) (vin V Y.1 st0) Y.2.2 16).1 [] 0 0 Y.2.1 := ⟨_, rfl⟩
    rw [← hO]
    have ho : outC (V c).2 I sd c (vin V Y.1 st0) Y.2.1 Y.2.2 = (match O.1 with
      | some K => (0, K, O.2)
      | none => (4, [], O.2)) := by
      unfold outC
      rw [if_pos hf', ← hO]
    unfold rRn
    rw [ho]
    cases hc : O.1 with
    | none =>
      refine Prod.ext ?_ rfl
      show rUp _ _ _ = _
      rw [rUp_cong hZo, hZ1]
      rfl
    | some K =>
      refine Prod.ext ?_ rfl
      show rUp _ _ _ = _
      rw [rUp_cong hZo, hZ1]
      rfl
