/-! What is not stale is as it would be found now. -/
abbrev Gh : Type := Nat → (Nat → Int64) × Int32
theorem agr_rf (I : Nat → Int64) (sd : Int32) (e : Tr) : agr I I sd sd e := ⟨fun _ _ => rfl, fun _ => rfl⟩
theorem agr_tr {I I' I2 : Nat → Int64} {sd sd' sd2 : Int32} {e : Tr} (h : agr I I' sd sd' e) (h' : agr I' I2 sd' sd2 e) : agr I I2 sd sd2 e := ⟨fun i y => (h.1 i y).trans (h'.1 i y), fun y => (h.2 y).trans (h'.2 y)⟩
theorem agr_sy {I I' : Nat → Int64} {sd sd' : Int32} {e : Tr} (h : agr I I' sd sd' e) : agr I' I sd' sd e := ⟨fun i y => (h.1 i y).symm, fun y => (h.2 y).symm⟩
/-- its functions, made as G tells, would do the same under these inputs and this seed -/
def mad (G : Gh) (I : Nat → Int64) (sd : Int32) : Tr → Prop
  | .leaf => True
  | .inner k l _ a b => (k = 3 → agr (G l.1).1 I (G l.1).2 sd a ∧ mad G I sd b) ∧ (k = 4 → mad G I sd a ∧ mad G I sd b)
theorem mad_lku {G : Gh} {I : Nat → Int64} {sd : Int32} {n : Nat} : ∀ {s v : Tr}, scp s = true → mad G I sd s → lku n s = some v → mad G I sd v
  | .leaf, v, _, _, h => by cases h
  | .inner k l u a b, v, hs, hc, h => by
    have hs : (k == 4 && scp b) = true := hs
    rw [Bool.and_eq_true, beq_iff_eq] at hs
    obtain ⟨h1, h2⟩ := hc.2 hs.1
    unfold lku at h
    split at h
    · cases h; exact h1
    · exact mad_lku hs.2 h2 h
theorem mad_cong {G G' : Gh} {I : Nat → Int64} {sd : Int32} {F : Nat → Tr} {B : Nat} (hG : ∀ s, s < B → G' s = G s) : ∀ {t : Tr}, clo F B t → mad G I sd t → mad G' I sd t
  | .leaf, _, _ => trivial
  | .inner k l u a b, hc, h => ⟨fun y => by
    obtain ⟨c1, c2, c3⟩ := hc.1 y
    obtain ⟨h1, h2⟩ := h.1 y
    rw [hG _ c1]
    exact ⟨h1, mad_cong hG c3 h2⟩, fun y => ⟨mad_cong hG (hc.2 y).1 (h.2 y).1, mad_cong hG (hc.2 y).2 (h.2 y).2⟩⟩
theorem mad_N {G : Gh} {I : Nat → Int64} {sd : Int32} {t : Tr} (h : isN t = true) : mad G I sd t := by
  rw [isN_t h]
  exact ⟨fun y => (by cases y), fun y => (by cases y)⟩
def tT : Nat → Nat → Prop := fun _ _ => True
def tQ : Tr → Prop := fun _ => True
theorem rlt_rf : ∀ t : Tr, rlt tT tQ t t
  | .leaf => trivial
  | .inner k l u a b => ⟨rfl, rfl, fun _ => ⟨trivial, rfl, trivial, rlt_rf b⟩, fun _ => ⟨rfl, rlt_rf a, rlt_rf b⟩, fun _ _ => ⟨rfl, rfl, rfl⟩⟩
theorem rlt_mad {P : Nat → Nat → Prop} {G : Gh} {I0 I : Nat → Int64} {S0 sd : Int32} : ∀ {t t' : Tr}, rlt P tQ t t' → mad G I0 S0 t → mad G I sd t → rlt P (agr I0 I S0 sd) t t'
  | .leaf, .leaf, _, _, _ => trivial
  | .inner k l u a b, .inner k' l' u' a' b', h, m1, m2 => ⟨h.1, h.2.1, fun y => by
    obtain ⟨h1, h2, -, h4⟩ := h.2.2.1 y
    exact ⟨h1, h2, agr_tr (agr_sy (m1.1 y).1) (m2.1 y).1, rlt_mad h4 (m1.1 y).2 (m2.1 y).2⟩, fun y => by
    obtain ⟨h1, h2, h3⟩ := h.2.2.2.1 y
    exact ⟨h1, rlt_mad h2 (m1.2 y).1 (m2.2 y).1, rlt_mad h3 (m1.2 y).2 (m2.2 y).2⟩, h.2.2.2.2⟩
  | .leaf, .inner _ _ _ _ _, h, _, _ => absurd h id
  | .inner _ _ _ _ _, .leaf, h, _, _ => absurd h id
theorem oR_mono {RV RV' : Tr → Tr → Prop} {o o' : Option Tr} (h : oR RV o o') (hm : ∀ v v', o = some v → RV v v' → RV' v v') : oR RV' o o' := by
  rcases h with h | ⟨v, v', h1, h2, h3⟩
  · exact Or.inl h
  · exact Or.inr ⟨v, v', h1, h2, hm v v' h1 h3⟩
theorem lK_mono {RV RV' : Tr → Tr → Prop} (hm : ∀ v v', RV v v' → RV' v v') : ∀ {K K' : Cd}, lK RV K K' → lK RV' K K'
  | [], [], _ => trivial
  | q :: r, q' :: r', h => ⟨⟨h.1.1, hm _ _ h.1.2⟩, lK_mono hm h.2⟩
  | [], _ :: _, h => absurd h id
  | _ :: _, [], h => absurd h id
theorem lK_lkp {RV : Tr → Tr → Prop} {n : Nat} : ∀ {K K' : Cd}, lK RV K K' → oR RV (lkp n K) (lkp n K')
  | [], [], _ => Or.inl ⟨rfl, rfl⟩
  | q :: r, q' :: r', h => by
    unfold lkp
    rw [← h.1.1]
    split
    · exact Or.inr ⟨_, _, rfl, rfl, h.1.2⟩
    · exact lK_lkp h.2
  | [], _ :: _, h => absurd h id
  | _ :: _, [], h => absurd h id
theorem lK_l {RV : Tr → Tr → Prop} {G : Tr → Prop} (hg : ∀ v v', RV v v' → G v) : ∀ {K K' : Cd}, lK RV K K' → ∀ n v, (n, v) ∈ K → G v
  | [], _, _, n, v, y => by cases y
  | q :: r, [], h, _, _, _ => absurd h id
  | q :: r, q' :: r', h, n, v, y => by
    rcases List.mem_cons.mp y with y | y
    · rw [show v = q.2 by rw [← y]]; exact hg _ _ h.1.2
    · exact lK_l hg h.2 n v y
/-- a run then and a run now -/
theorem snr {C : Cd} {I0 I : Nat → Int64} {S0 sd : Int32} {cl B0 T0 B' T' : Nat} {W W' : Nat → Option Tr} {F : Nat → Tr} {G : Gh} (hC : ∀ q, q ∈ C → agr I0 I S0 sd q.2) (hW : ∀ k, k < 16 → (rds C).testBit k = true → oR (rlt tT tQ) (W k) (W' k)) (hv : ∀ k v, k < 16 → (rds C).testBit k = true → W k = some v → gV F B0 v ∧ mad G I0 S0 v ∧ mad G I sd v) (hG : ∀ s, B0 ≤ s → s < (outC C I0 S0 cl W B0 T0).2.2 → G s = (I0, S0)) : (outC C I0 S0 cl W B0 T0).1 = (outC C I sd cl W' B' T').1 ∧ lK (rlt tT tQ) (outC C I0 S0 cl W B0 T0).2.1 (outC C I sd cl W' B' T').2.1 ∧ ∀ n v, (n, v) ∈ (outC C I0 S0 cl W B0 T0).2.1 → mad G I sd v := by
  obtain ⟨G', hG'⟩ : ∃ G' : Gh, G' = fun s => if s < B0 then G s else (I0, S0) := ⟨_, rfl⟩
  have g1 : ∀ s, s < B0 → G' s = G s := fun s hs => by rw [hG']; exact if_pos hs
  have g2 : ∀ k, G' (B0 + k) = (I0, S0) := fun k => by rw [hG']; exact if_neg (by omega)
  obtain ⟨w1, w2, w3, w4, w5, w6, w7, w8, w9⟩ := lrw_rlt (I := I0) (I' := I) (sd := S0) (sd' := sd) (rid := T0) (rid' := T') (B := B0) (B' := B') (P := tT) (qok_agr I0 I S0 sd) (fun _ => trivial)
  have w : lrw I0 I S0 sd T0 T' B0 B' (fun t t' => eV tT (agr I0 I S0 sd) t t' ∧ mad G' I sd t) (fun t t' => eE tT (agr I0 I S0 sd) t t' ∧ mad G' I sd t) (eqP (agr I0 I S0 sd)) := by
    refine ⟨w1, w2, w3, fun n => ⟨w4 n, ⟨fun y => (by cases y), fun y => (by cases y)⟩⟩, fun v v' h => w5 v v' h.1, ?_, ?_, ?_, ?_⟩
    · rintro v v' ⟨h, m⟩ hc
      obtain ⟨y1, y2⟩ := w6 v v' h hc
      refine ⟨y1, y2, ?_⟩
      match v, m, hc with
      | .inner k l u a b, m, hc => exact (m.1 (beq_iff_eq.mp hc)).2
    · rintro e e' s s' k h ⟨h1, h2⟩ h7
      refine ⟨w7 e e' s s' k h h1 h7, ⟨fun _ => ⟨?_, h2⟩, fun y => (by cases y)⟩⟩
      show agr (G' (B0 + k)).1 I (G' (B0 + k)).2 sd e
      rw [g2]
      exact h.2
    · rintro n v v' s s' ⟨h1, h2⟩ ⟨h3, h4⟩
      exact ⟨w8 n v v' s s' h1 h3, ⟨fun y => (by cases y), fun _ => ⟨h2, h4⟩⟩⟩
    · rintro n s s' ⟨h1, h2⟩
      rcases w9 n s s' h1 with y | ⟨v, v', y1, y2, y3⟩
      · exact Or.inl y
      · exact Or.inr ⟨v, v', y1, y2, y3, mad_lku h1.2.2 h2 y1⟩
  have hCC : lK (eqP (agr I0 I S0 sd)) C C := lK_rf (fun n e y => ⟨rfl, hC (n, e) y⟩)
  obtain ⟨k1, k2, -⟩ := outC_R (cl := cl) (C := C) (W := W) (W' := W') w ⟨⟨trivial, rfl, rfl⟩, trivial⟩ hCC (fun k hk hb => oR_mono (hW k hk hb) (fun v v' e h => by
    obtain ⟨y1, y2, y3⟩ := hv k v hk hb e
    exact ⟨⟨rlt_mad h y2 y3, y1.2⟩, mad_cong g1 y1.1 y3⟩))
  obtain ⟨F', f1, f2, f3⟩ := outC_F (C := C) (I := I0) (sd := S0) (cl := cl) (B := B0) (rid := T0) (W := W) (F := F) (fun k v hk hb e => (hv k v hk hb e).1)
  refine ⟨k1, lK_mono (fun v v' h => rlt_mono (fun _ _ y => y) (fun _ _ => trivial) h.1.1) k2, fun n v hm => ?_⟩
  have m1 := lK_l (G := mad G' I sd) (fun v v' h => h.2) k2 n v hm
  refine mad_cong (G := G') (B := (outC C I0 S0 cl W B0 T0).2.2) (fun s hs => ?_) (f3 n v hm).1 m1
  rcases Nat.lt_or_ge s B0 with g | g
  · exact (g1 s g).symm
  · rw [hG s g hs]
    have := g2 (s - B0)
    rw [show B0 + (s - B0) = s by omega] at this
    exact this.symm
/-! Exprs' inputs and draws as bits. -/
theorem inx_in {i : Nat} : ∀ {e : Tr}, wE e = true → inx e i → (inps e).testBit i = true
  | .leaf, _, y => absurd y id
  | .inner _ _ _ _ .leaf, h, _ => by cases h
  | .inner k l u a (.inner k2 l2 u2 b c), h, y => by
    unfold wE at h
    simp only [Bool.and_eq_true, beq_iff_eq, decide_eq_true_eq] at h
    obtain ⟨⟨⟨⟨⟨⟨⟨e1, e2⟩, e3⟩, e4⟩, e5⟩, e6⟩, e7⟩, e8⟩ := h
    show Nat.testBit ((if l.1 = 2 then 2 ^ l.2.1 else 0) ||| inps a ||| inps b ||| inps c) i = true
    rw [Nat.testBit_or, Nat.testBit_or, Nat.testBit_or]
    rcases y with ⟨y1, y2⟩ | y | ⟨y1, y2⟩ | y | y
    · rw [if_pos y1, y2, Nat.testBit_two_pow]
      simp
    · rw [inx_in e6 y]; simp
    · rw [e3] at y1; cases y1
    · rw [inx_in e7 y]; simp
    · rw [inx_in e8 y]; simp
theorem drx_dr : ∀ {e : Tr}, wE e = true → drx e → drw e = true
  | .leaf, _, y => absurd y id
  | .inner _ _ _ _ .leaf, h, _ => by cases h
  | .inner k l u a (.inner k2 l2 u2 b c), h, y => by
    unfold wE at h
    simp only [Bool.and_eq_true, beq_iff_eq, decide_eq_true_eq] at h
    obtain ⟨⟨⟨⟨⟨⟨⟨e1, e2⟩, e3⟩, e4⟩, e5⟩, e6⟩, e7⟩, e8⟩ := h
    show (decide (l.1 = 3) || drw a || drw b || drw c) = true
    rcases y with y | y | y1 | y | y
    · simp [y]
    · rw [drx_dr e6 y]; simp
    · rw [e3] at y1; cases y1
    · rw [drx_dr e7 y]; simp
    · rw [drx_dr e8 y]; simp
theorem fold_up (f : Nat × Tr → Nat) : ∀ (C : Cd) (m : Nat), bsb m (C.foldl (fun m q => m ||| f q) m)
  | [], m => bsb_rf m
  | q :: r, m => bsb_tr (bsb_l m (f q)) (fold_up f r _)
theorem fold_in (f : Nat × Tr → Nat) : ∀ (C : Cd) (m : Nat) (q : Nat × Tr), q ∈ C → bsb (f q) (C.foldl (fun m q => m ||| f q) m)
  | [], m, q, h => by cases h
  | p :: r, m, q, h => by
    rcases List.mem_cons.mp h with y | y
    · subst y
      exact bsb_tr (bsb_r m (f q)) (fold_up f r _)
    · exact fold_in f r _ q y
theorem ius_in {C : Cd} {q : Nat × Tr} (h : q ∈ C) : bsb (inps q.2) (ius C) := fold_in (fun q => inps q.2) C 0 q h
/-- well made exprs -/
def cdk (e : Tr) : Prop := wE e = true ∧ inps e < 16
/-- made from the same, as far as its code asks -/
theorem mfr_agr {R : Rs} {C : Cd} {I I0 : Nat → Int64} {sd : Int32} (h : mfr R C I sd = true) (hI : ∀ k, k < 4 → I0 k = rI R k) (hC : ∀ q, q ∈ rC R → cdk q.2) : rC R = C ∧ ∀ q, q ∈ C → agr I0 I (rS R) sd q.2 := by
  unfold mfr at h
  rw [Bool.and_eq_true, Bool.and_eq_true] at h
  obtain ⟨⟨h1, h2⟩, h3⟩ := h
  have e := ceq_t.mp h1
  refine ⟨e, fun q hq => ⟨fun i hi => ?_, fun hd => ?_⟩⟩
  · rw [← e] at hq
    obtain ⟨y1, y2⟩ := hC q hq
    have hb := inx_in y1 hi
    have h4 : i < 4 := bits_lt (n := 4) y2 i hb
    have hb2 := ius_in hq i hb
    rw [hI i h4]
    apply Classical.byContradiction
    intro hne
    have : bex (fun i => (ius (rC R)).testBit i && !decide (rI R i = I i)) 4 = true := bex_iff.mpr ⟨i, h4, by
      show ((ius (rC R)).testBit i && !decide (rI R i = I i)) = true
      rw [hb2, decide_eq_false hne]; rfl⟩
    rw [this] at h3
    cases h3
  · rw [← e] at hq
    have hd2 := drx_dr (hC q hq).1 hd
    have hcd : cdw (rC R) = true := List.any_eq_true.mpr ⟨q, hq, hd2⟩
    rw [hcd] at h2
    exact of_decide_eq_true h2
/-- when it isn't stale by itself -/
theorem sti_r {V : Vr} {RR : Nat → Rs} {st0 c : Nat} {I : Nat → Int64} {sd : Int32} (hw : wr V c = 0) : sti V RR st0 I sd c = false ↔ ¬ ((RR (st0 + c)).1 = -1 ∨ (¬ (RR (st0 + c)).1 < i32 1 ∧ ¬ i32 3 < (RR (st0 + c)).1)) ∧ mfr (RR (st0 + c)) (V c).2 I sd = true ∧ ∀ n, n < 16 → (rds (V c).2).testBit n = true → smv (rW (RR (st0 + c)) n) (vin V RR st0 n) = true := by
  unfold sti
  rw [if_pos hw]
  constructor
  · intro h
    split at h
    · cases h
    next h1 =>
      split at h
      next h2 =>
        refine ⟨h1, h2, fun n hn hb => ?_⟩
        apply Classical.byContradiction
        intro hne
        have : bex (chg V RR st0 c) 16 = true := bex_iff.mpr ⟨n, hn, by unfold chg; rw [hb, Bool.eq_false_iff.mpr hne]; rfl⟩
        rw [this] at h
        cases h
      next => cases h
  · rintro ⟨h1, h2, h3⟩
    rw [if_neg h1, if_pos h2]
    apply Bool.eq_false_iff.mpr
    intro y
    obtain ⟨n, hn, y⟩ := bex_iff.mp y
    unfold chg at y
    rw [Bool.and_eq_true] at y
    rw [h3 n hn y.1] at y
    cases y.2
theorem sti_w {V : Vr} {RR : Nat → Rs} {st0 c : Nat} {I : Nat → Int64} {sd : Int32} (hw : ¬ wr V c = 0) : sti V RR st0 I sd c = false ↔ (RR (st0 + c)).1 = i32 (wr V c) := by
  unfold sti
  rw [if_neg hw]
  simp
/-- a result's truth -/
def rno (R : Rs) : Prop := (R.1 = -1 ∨ R.1 = 1 ∨ R.1 = 2 ∨ R.1 = 3) ∧ rK R = []
def rrn (F : Nat → Tr) (G : Gh) (B bh i : Nat) (R : Rs) : Prop := ∃ (B0 T0 : Nat) (I0 : Nat → Int64), (∀ k, k < 4 → I0 k = rI R k) ∧ R.1 = (outC (rC R) I0 (rS R) i (rW R) B0 T0).1 ∧ rK R = (outC (rC R) I0 (rS R) i (rW R) B0 T0).2.1 ∧ B0 ≤ B ∧ (outC (rC R) I0 (rS R) i (rW R) B0 T0).2.2 ≤ B ∧ (∀ s, B0 ≤ s → s < (outC (rC R) I0 (rS R) i (rW R) B0 T0).2.2 → G s = (I0, rS R)) ∧ (∀ q, q ∈ rC R → cdk q.2) ∧ (∀ n v, n < 16 → (rds (rC R)).testBit n = true → rW R n = some v → gV F B0 v ∧ (bh = 0 → mad G I0 (rS R) v)) ∧ 0 < T0
def rok (F : Nat → Tr) (G : Gh) (B bh i : Nat) (R : Rs) : Prop := (rno R ∨ rrn F G B bh i R) ∧ ∀ n v, (n, v) ∈ rK R → gV F B v
def Rok (F : Nat → Tr) (G : Gh) (B bh : Nat) (RR : Nat → Rs) : Prop := ∀ i, i < 12 → rok F G B bh i (RR i)
theorem vin_some {V : Vr} {RR : Nat → Rs} {st0 n : Nat} {v : Tr} (h : vin V RR st0 n = some v) : ∃ c', ow V n 12 = some c' ∧ c' < 12 ∧ wr V c' = 0 ∧ (RR (st0 + c')).1 = 0 ∧ (n, v) ∈ rK (RR (st0 + c')) := by
  unfold vin at h
  obtain ⟨c', h1, h2⟩ := Option.bind_eq_some_iff.mp h
  unfold src at h1
  cases ho : ow V n 12 with
  | none => rw [ho] at h1; cases h1
  | some c2 =>
    rw [ho] at h1
    have h1 : (if wr V c2 = 0 ∧ (RR (st0 + c2)).1 = 0 then some c2 else none) = some c' := h1
    split at h1
    next g => cases h1; exact ⟨_, rfl, ow_lt ho, g.1, g.2, lkp_mem h2⟩
    next => cases h1
theorem smv_eq {F : Nat → Tr} {B : Nat} {o o' : Option Tr} (h : smv o o' = true) (hu : ∀ u, o = some u → gV F B u) (hv : ∀ v, o' = some v → gV F B v) : o = o' := by
  cases o with
  | none =>
    cases o' with
    | none => rfl
    | some v => cases h
  | some u =>
    cases o' with
    | none => cases h
    | some v =>
      rw [smv_s] at h
      have gu := hu u rfl
      have gv := hv v rfl
      split at h
      next hc =>
        rw [Bool.and_eq_true, beq_iff_eq] at h
        rw [clo_eq gu.1 gv.1 hc h.1 h.2]
      next hc =>
        rw [Bool.and_eq_true, beq_iff_eq, Bool.not_eq_true'] at h
        have nu : isN u = true := by
          have := (Bool.and_eq_true_iff.mp gu.2).1
          rw [Bool.eq_false_iff.mpr hc] at this
          exact this
        have nv : isN v = true := by
          have := (Bool.and_eq_true_iff.mp gv.2).1
          rw [h.1] at this
          exact this
        rw [isN_t nu, isN_t nv, h.2]
/-- a set of cells, none of them stale by itself, with all that they read -/
def dcl (V : Vr) (RR : Nat → Rs) (I : Nat → Int64) (sd : Int32) (D : Nat → Prop) : Prop := (∀ c, c < 12 → D c → (V c).1 = true → sti V RR 0 I sd c = false) ∧ ∀ c, c < 12 → D c → wr V c = 0 → ∀ c', (dim V c 16).testBit c' = true → D c'
/-- cells that are not there have no code -/
def vnt (V : Vr) : Prop := ∀ c, c < 12 → (V c).1 = false → (V c).2 = []
theorem dfd_there {V : Vr} {c n : Nat} (h : vnt V) (hc : c < 12) (hd : (dfd (V c).2).testBit n = true) : (V c).1 = true := by
  cases hb : (V c).1 with
  | true => rfl
  | false =>
    rw [h c hc hb] at hd
    have : (dfd []).testBit n = false := Nat.zero_testBit n
    rw [this] at hd
    cases hd
section SO
variable {V : Vr} {RR : Nat → Rs} {I : Nat → Int64} {sd : Int32} {F : Nat → Tr} {G : Gh} {B bh : Nat} {D : Nat → Prop}
/-- by which it was run, when it is not stale -/
theorem run_of {c : Nat} (hc : c < 12) (hR : Rok F G B bh RR) (hw : wr V c = 0) (hs : sti V RR 0 I sd c = false) : rrn F G B bh c (RR c) ∧ rC (RR c) = (V c).2 ∧ (∀ I0, (∀ k, k < 4 → I0 k = rI (RR c) k) → (∀ q, q ∈ rC (RR c) → cdk q.2) → ∀ q, q ∈ (V c).2 → agr I0 I (rS (RR c)) sd q.2) ∧ ∀ n, n < 16 → (rds (V c).2).testBit n = true → rW (RR c) n = vin V RR 0 n := by
  obtain ⟨h1, h2, h3⟩ := (sti_r hw).mp hs
  rw [Nat.zero_add] at h1 h2 h3
  have hrun : rrn F G B bh c (RR c) := by
    rcases (hR c hc).1 with y | y
    · refine absurd ?_ h1
      rcases y.1 with y | y | y | y
      · exact Or.inl y
      · rw [y]; exact Or.inr ⟨by decide, by decide⟩
      · rw [y]; exact Or.inr ⟨by decide, by decide⟩
      · rw [y]; exact Or.inr ⟨by decide, by decide⟩
    · exact y
  obtain ⟨B0, T0, I0, r1, r2, r3, r4, r5, r6, r7, r8, r9⟩ := id hrun
  have e := (mfr_agr h2 r1 r7).1
  refine ⟨hrun, e, fun I1 y1 y2 => (mfr_agr h2 y1 y2).2, fun n hn hb => ?_⟩
  refine smv_eq (F := F) (B := B) (h3 n hn hb) (fun u hu => ?_) (fun v hv => ?_)
  · rw [← e] at hb
    exact gV_up r4 (fun _ _ => rfl) (r8 n u hn hb hu).1
  · obtain ⟨c', o1, o2, o3, o4, o5⟩ := vin_some hv
    rw [Nat.zero_add] at o5
    exact (hR c' o2).2 n v o5
/-- all functions kept there would do the same now -/
theorem frm (hV : vnt V) (hR : Rok F G B bh RR) (hD : dcl V RR I sd D) (hb : bh = 0 ∨ ∀ c, c < 12 → D c → ∀ n v, (n, v) ∈ rK (RR c) → isN v = true) : ∀ (m c : Nat), rk V c = m → c < 12 → D c → wr V c = 0 → (V c).1 = true → ∀ n v, (n, v) ∈ rK (RR c) → mad G I sd v := by
  intro m
  induction m using Nat.strongRecOn with
  | _ m ih =>
    intro c hr hc hd hw ht n v hm
    have hs := hD.1 c hc hd ht
    obtain ⟨hrun, e, ha, hW⟩ := run_of hc hR hw hs
    obtain ⟨B0, T0, I0, r1, r2, r3, r4, r5, r6, r7, r8, r9⟩ := hrun
    rw [r3] at hm
    rw [e] at hm r6 r8
    have src9 : ∀ k v, k < 16 → (rds (V c).2).testBit k = true → rW (RR c) k = some v → ∃ c', D c' ∧ c' < 12 ∧ (k, v) ∈ rK (RR c') ∧ mad G I sd v := fun k v hk hbk hv => by
      rw [hW k hk hbk] at hv
      obtain ⟨c', o1, o2, o3, o4, o5⟩ := vin_some hv
      rw [Nat.zero_add] at o5
      have hdm := ow_dim hk hbk o1
      have hD' := hD.2 c hc hd hw c' hdm
      exact ⟨c', hD', o2, o5, ih (rk V c') (by have := rk_lt hw hdm o2; omega) c' rfl o2 hD' o3 (dfd_there hV o2 (ow_dfd o1)) k v o5⟩
    refine (snr (F := F) (G := G) (B' := B0) (T' := T0) (W' := rW (RR c)) (ha I0 r1 r7) (fun k _ _ => ?_) (fun k u hk hbk hu => ?_) r6).2.2 n v hm
    · cases hx : rW (RR c) k with
      | none => exact Or.inl ⟨rfl, rfl⟩
      | some u => exact Or.inr ⟨u, u, rfl, rfl, rlt_rf u⟩
    · obtain ⟨c', s1, s2, s3, s4⟩ := src9 k u hk hbk hu
      obtain ⟨y1, y2⟩ := r8 k u hk hbk hu
      refine ⟨y1, ?_, s4⟩
      rcases hb with hb | hb
      · exact y2 hb
      · exact mad_N (hb c' s2 s1 k u s3)
/-- what is found anew: each from what it reads -/
def anw0 (V : Vr) (I : Nat → Int64) (sd : Int32) (RA : Nat → Rs) : Prop := ∀ c, c < 12 → (V c).1 = true → (wr V c = 0 → ∃ B' T' : Nat, (RA c).1 = (outC (V c).2 I sd c (vin V RA 0) B' T').1 ∧ rK (RA c) = (outC (V c).2 I sd c (vin V RA 0) B' T').2.1) ∧ (¬ wr V c = 0 → (RA c).1 = i32 (wr V c) ∧ rK (RA c) = [])
theorem snd9 {RA : Nat → Rs} (hV : vnt V) (hR : Rok F G B bh RR) (hD : dcl V RR I sd D) (hb : bh = 0 ∨ ∀ c, c < 12 → D c → ∀ n v, (n, v) ∈ rK (RR c) → isN v = true) (hA : anw0 V I sd RA) : ∀ (m c : Nat), rk V c = m → c < 12 → D c → wr V c = 0 → (V c).1 = true → (RR c).1 = (RA c).1 ∧ lK (rlt tT tQ) (rK (RR c)) (rK (RA c)) := by
  intro m
  induction m using Nat.strongRecOn with
  | _ m ih =>
    intro c hr hc hd hw ht
    have hs := hD.1 c hc hd ht
    obtain ⟨hrun, e, ha, hW⟩ := run_of hc hR hw hs
    obtain ⟨B0, T0, I0, r1, r2, r3, r4, r5, r6, r7, r8, r9⟩ := hrun
    rw [e] at r2 r3 r6 r8
    obtain ⟨B', T', a1, a2⟩ := (hA c hc ht).1 hw
    have key := snr (F := F) (G := G) (B' := B') (T' := T') (W' := vin V RA 0) (ha I0 r1 r7) (fun k hk hbk => ?_) (fun k u hk hbk hu => ?_) r6
    · rw [r2, r3, a1, a2]
      exact ⟨key.1, key.2.1⟩
    · rw [hW k hk hbk]
      cases ho : ow V k 12 with
      | none => exact Or.inl ⟨by unfold vin src; rw [ho]; rfl, by unfold vin src; rw [ho]; rfl⟩
      | some c' =>
        have o2 := ow_lt ho
        have hdm := ow_dim hk hbk ho
        have hD' := hD.2 c hc hd hw c' hdm
        have ht' := dfd_there hV o2 (ow_dfd ho)
        by_cases hw' : wr V c' = 0
        · obtain ⟨i1, i2⟩ := ih (rk V c') (by have := rk_lt hw hdm o2; omega) c' rfl o2 hD' hw' ht'
          unfold vin src
          rw [ho]
          dsimp only
          rw [Nat.zero_add, ← i1]
          split
          · show oR _ (lkp k (rK (RR (0 + c')))) (lkp k (rK (RA (0 + c'))))
            rw [Nat.zero_add]
            exact lK_lkp i2
          · exact Or.inl ⟨rfl, rfl⟩
        · refine Or.inl ⟨?_, ?_⟩
          · unfold vin src; rw [ho]; dsimp only; rw [if_neg (fun y => hw' y.1)]; rfl
          · unfold vin src; rw [ho]; dsimp only; rw [if_neg (fun y => hw' y.1)]; rfl
    · obtain ⟨y1, y2⟩ := r8 k u hk hbk hu
      rw [hW k hk hbk] at hu
      obtain ⟨c', o1, o2, o3, o4, o5⟩ := vin_some hu
      rw [Nat.zero_add] at o5
      have hdm := ow_dim hk hbk o1
      have hD' := hD.2 c hc hd hw c' hdm
      have m1 := frm hV hR hD hb (rk V c') c' rfl o2 hD' o3 (dfd_there hV o2 (ow_dfd o1)) k u o5
      refine ⟨y1, ?_, m1⟩
      rcases hb with hb | hb
      · exact y2 hb
      · exact mad_N (hb c' o2 hD' k u o5)
end SO
