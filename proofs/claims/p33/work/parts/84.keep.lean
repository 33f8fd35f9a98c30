/-! Runs keep what is true of results. -/
section KE
variable {V : Vr} {I : Nat → Int64} {sd : Int32} {F F' : Nat → Tr} {G G' : Gh} {B B' bh : Nat}
theorem rok_up {i : Nat} {R : Rs} (hB : B ≤ B') (hF : ∀ s, s < B → F' s = F s) (hG : ∀ s, s < B → G' s = G s) (h : rok F G B bh i R) : rok F' G' B' bh i R := by
  refine ⟨h.1.elim Or.inl (fun y => Or.inr ?_), fun n v hm => gV_up hB hF (h.2 n v hm)⟩
  obtain ⟨B0, T0, I0, r1, r2, r3, r4, r5, r6, r7, r8, r9⟩ := y
  refine ⟨B0, T0, I0, r1, r2, r3, by omega, by omega, fun s h1 h2 => (hG s (by omega)).trans (r6 s h1 h2), r7, fun n v hn hb hv => ?_, r9⟩
  obtain ⟨y1, y2⟩ := r8 n v hn hb hv
  exact ⟨gV_up (Nat.le_refl _) (fun s hs => hF s (by omega)) y1, fun y => mad_cong (fun s hs => hG s (by omega)) y1.1 (y2 y)⟩
theorem Rok_rno {RR : Nat → Rs} {i : Nat} {R : Rs} (h : Rok F G B bh RR) (hR : rno R) : Rok F G B bh (rUp RR i R) := fun j hj => by
  rcases Nat.decEq j i with hne | rfl
  · rw [rUp_n hne]; exact h j hj
  · rw [rUp_s]
    exact ⟨Or.inl hR, fun n v hm => by rw [hR.2] at hm; cases hm⟩
theorem rno_wr {R : Rs} {c : Nat} (hw : ¬ wr V c = 0) : rno (rup R (i32 (wr V c)) []) := by
  have := wr_le V c
  refine ⟨?_, rfl⟩
  show i32 (wr V c) = -1 ∨ _
  rcases (show wr V c = 1 ∨ wr V c = 2 ∨ wr V c = 3 by omega) with h | h | h
  · rw [h]; exact Or.inr (Or.inl rfl)
  · rw [h]; exact Or.inr (Or.inr (Or.inl rfl))
  · rw [h]; exact Or.inr (Or.inr (Or.inr rfl))
theorem rRn_outC {c : Nat} {Y : Yr} : outC (rC (rRn V I sd 0 c Y)) I (rS (rRn V I sd 0 c Y)) c (rW (rRn V I sd 0 c Y)) Y.2.1 Y.2.2 = outC (V c).2 I sd c (vin V Y.1 0) Y.2.1 Y.2.2 :=
  outC_cong (C := (V c).2) (W := rW (rRn V I sd 0 c Y)) (fun k hk hb => if_pos ⟨hk, hb⟩)
/-- a run -/
theorem Rok_run {c : Nat} {Y : Yr} (hT : 0 < Y.2.2) (hc : c < 12) (hw : wr V c = 0) (hC : ∀ q, q ∈ (V c).2 → cdk q.2) (h : Rok F G Y.2.1 bh Y.1) (hm : bh = 0 → ∀ k v, k < 16 → (rds (V c).2).testBit k = true → vin V Y.1 0 k = some v → mad G I sd v) : ∃ (F' : Nat → Tr) (G' : Gh), Y.2.1 ≤ (rOn V I sd 0 c Y).2.1 ∧ Rok F' G' (rOn V I sd 0 c Y).2.1 bh (rOn V I sd 0 c Y).1 := by
  have gv : ∀ k v, k < 16 → (rds (V c).2).testBit k = true → vin V Y.1 0 k = some v → gV F Y.2.1 v := fun k v _ _ hv => by
    obtain ⟨c', o1, o2, o3, o4, o5⟩ := vin_some hv
    rw [Nat.zero_add] at o5
    exact (h c' o2).2 k v o5
  obtain ⟨F', f1, f2, f3⟩ := outC_F (C := (V c).2) (I := I) (sd := sd) (cl := c) (B := Y.2.1) (rid := Y.2.2) (W := vin V Y.1 0) (F := F) gv
  obtain ⟨G', hG'⟩ : ∃ G' : Gh, G' = fun s => if s < Y.2.1 then G s else (I, sd) := ⟨_, rfl⟩
  have g1 : ∀ s, s < Y.2.1 → G' s = G s := fun s hs => by rw [hG']; exact if_pos hs
  have g2 : ∀ s, Y.2.1 ≤ s → G' s = (I, sd) := fun s hs => by rw [hG']; exact if_neg (by omega)
  rw [rOn_right hw]
  refine ⟨F', G', f2, fun i hi => ?_⟩
  show rok F' G' _ bh i (rUp Y.1 (0 + c) (rRn V I sd 0 c Y) i)
  rw [Nat.zero_add]
  rcases Nat.decEq i c with hne | rfl
  · rw [rUp_n hne]
    exact rok_up f2 f1 g1 (h i hi)
  · rw [rUp_s]
    refine ⟨Or.inr ⟨Y.2.1, Y.2.2, I, fun k hk => (if_pos hk).symm, ?_, ?_, f2, ?_, ?_, hC, fun n v hn hb hv => ?_, hT⟩, f3⟩
    · rw [rRn_outC]; rfl
    · rw [rRn_outC]; rfl
    · rw [rRn_outC]; exact Nat.le_refl _
    · intro s h1 _
      exact g2 s h1
    · have e : rW (rRn V I sd 0 i Y) n = vin V Y.1 0 n := if_pos ⟨hn, hb⟩
      rw [e] at hv
      have y1 := gv n v hn hb hv
      exact ⟨gV_up (Nat.le_refl _) f1 y1, fun y => mad_cong g1 y1.1 (hm y n v hn hb hv)⟩
theorem Rok_on {c : Nat} {Y : Yr} (hT : 0 < Y.2.2) (hc : c < 12) (hC : ∀ q, q ∈ (V c).2 → cdk q.2) (h : Rok F G Y.2.1 bh Y.1) (hm : wr V c = 0 → bh = 0 → ∀ k v, k < 16 → (rds (V c).2).testBit k = true → vin V Y.1 0 k = some v → mad G I sd v) : ∃ (F' : Nat → Tr) (G' : Gh), Y.2.1 ≤ (rOn V I sd 0 c Y).2.1 ∧ Rok F' G' (rOn V I sd 0 c Y).2.1 bh (rOn V I sd 0 c Y).1 := by
  rcases Nat.decEq (wr V c) 0 with hw | hw
  · rcases rOn_cases V I sd 0 c Y with ⟨-, e⟩ | ⟨y, -⟩ | ⟨y, -⟩
    · rw [e]
      exact ⟨F, G, Nat.le_refl _, Rok_rno h (rno_wr hw)⟩
    · exact absurd y hw
    · exact absurd y hw
  · exact Rok_run hT hc hw hC h (hm hw)
theorem sti_cong {RR RR' : Nat → Rs} {st0 c : Nat} (h : RR (st0 + c) = RR' (st0 + c)) (hv : wr V c = 0 → ∀ n, n < 16 → (rds (V c).2).testBit n = true → vin V RR st0 n = vin V RR' st0 n) : sti V RR st0 I sd c = sti V RR' st0 I sd c := by
  have key : ∀ (A A' : Nat → Rs), A (st0 + c) = A' (st0 + c) → (wr V c = 0 → ∀ n, n < 16 → (rds (V c).2).testBit n = true → vin V A st0 n = vin V A' st0 n) → sti V A st0 I sd c = false → sti V A' st0 I sd c = false := fun A A' h hv hs => by
    rcases Nat.decEq (wr V c) 0 with hw | hw
    · rw [sti_w hw] at hs ⊢
      rw [← h]; exact hs
    · obtain ⟨h1, h2, h3⟩ := (sti_r hw).mp hs
      refine (sti_r hw).mpr ?_
      rw [← h]
      exact ⟨h1, h2, fun n hn hb => by rw [← hv hw n hn hb]; exact h3 n hn hb⟩
  cases h1 : sti V RR st0 I sd c with
  | false => exact (key _ _ h hv h1).symm
  | true =>
    cases h2 : sti V RR' st0 I sd c with
    | true => rfl
    | false =>
      rw [key RR' RR h.symm (fun hw n hn hb => (hv hw n hn hb).symm) h2] at h1
      cases h1
/-- what is read is the same, if the results of those that are needed are -/
theorem vin_same {RR RR' : Nat → Rs} {st0 c n : Nat} (hn : n < 16) (hb : (rds (V c).2).testBit n = true) (h : ∀ c', (dim V c 16).testBit c' = true → RR (st0 + c') = RR' (st0 + c')) : vin V RR st0 n = vin V RR' st0 n :=
  vin_cong (fun c' ho => by rw [h c' (ow_dim hn hb ho)]; exact ⟨rfl, rfl⟩)
theorem smv_rf {v : Option Tr} : smv v v = true := by
  cases v with
  | none => rfl
  | some u =>
    rw [smv_s]
    split
    next h => rw [h]; simp
    next h => rw [Bool.eq_false_iff.mpr h]; simp
theorem ceq_rf (C : Cd) : ceq C C = true := ceq_t.mpr rfl
theorem outC_e {C : Cd} {W : Nat → Option Tr} {cl rid : Nat} : ¬ ((outC C I sd cl W B rid).1 = -1 ∨ (¬ (outC C I sd cl W B rid).1 < i32 1 ∧ ¬ i32 3 < (outC C I sd cl W B rid).1)) := by
  rcases outC_n (C := C) (I := I) (sd := sd) (cl := cl) (B := B) (rid := rid) (W := W) with ⟨h, -⟩ | ⟨h | h, -⟩ <;> rw [h] <;> decide
/-- behind its run a cell is not stale by itself -/
theorem sti_run {st0 c : Nat} {Y : Yr} : sti V (rOn V I sd st0 c Y).1 st0 I sd c = false := by
  rcases Nat.decEq (wr V c) 0 with hw | hw
  · rw [sti_w hw]
    rcases rOn_cases V I sd st0 c Y with ⟨-, e⟩ | ⟨y, -⟩ | ⟨y, -⟩
    · rw [e]
      show (rUp _ _ _ _).1 = _
      rw [rUp_s]
      rfl
    · exact absurd y hw
    · exact absurd y hw
  · have e : (rOn V I sd st0 c Y).1 (st0 + c) = rRn V I sd st0 c Y := by
      rw [rOn_right hw]
      exact rUp_s
    refine (sti_r hw).mpr ?_
    rw [e]
    refine ⟨outC_e, ?_, fun n hn hb => ?_⟩
    · unfold mfr
      show (ceq (V c).2 (V c).2 && (!cdw (V c).2 || decide (sd = sd)) && !bex (fun i => (ius (V c).2).testBit i && !decide ((if i < 4 then I i else rI (Y.1 (st0 + c)) i) = I i)) 4) = true
      rw [ceq_rf]
      have hb : bex (fun i => (ius (V c).2).testBit i && !decide ((if i < 4 then I i else rI (Y.1 (st0 + c)) i) = I i)) 4 = false := by
        apply Bool.eq_false_iff.mpr
        intro y
        obtain ⟨i, hi, y⟩ := bex_iff.mp y
        have y : ((ius (V c).2).testBit i && !decide ((if i < 4 then I i else rI (Y.1 (st0 + c)) i) = I i)) = true := y
        rw [if_pos hi] at y
        simp at y
      rw [hb]
      simp
    · have e1 : rW (rRn V I sd st0 c Y) n = vin V Y.1 st0 n := if_pos ⟨hn, hb⟩
      have e2 : vin V (rOn V I sd st0 c Y).1 st0 n = vin V Y.1 st0 n := vin_cong (fun c' ho => by
        have hne := ow_ne hw hn hb ho
        rw [rOn_o (by omega)]
        exact ⟨rfl, rfl⟩)
      rw [e1, e2]
      exact smv_rf
/-- none of such a set is stale -/
theorem dcl_ns {RR : Nat → Rs} {D : Nat → Prop} (h : dcl V RR I sd D) : ∀ (m c : Nat), rk V c = m → c < 12 → D c → ¬ (stC V (stA V RR 0 I sd 12) 12).testBit c = true := by
  intro m
  induction m using Nat.strongRecOn with
  | _ m ih =>
    intro c hr hc hd hs
    rcases (stl_iff hc).mp hs with ⟨h1, h2⟩ | ⟨h1, c', h2, h3⟩
    · rw [h.1 c hc hd h1] at h2; cases h2
    · exact ih (rk V c') (by have := rk_lt h1 h2 (dim_12 h2); omega) c' rfl (dim_12 h2) (h.2 c hc hd h1 c' h2) h3
theorem ns_dcl (RR : Nat → Rs) : dcl V RR I sd (fun c => ¬ (stC V (stA V RR 0 I sd 12) 12).testBit c = true) := by
  refine ⟨fun c hc hd ht => ?_, fun c hc hd hw c' h2 h3 => hd ((stl_iff hc).mpr (Or.inr ⟨hw, c', h2, h3⟩))⟩
  apply Bool.eq_false_iff.mpr
  intro y
  exact hd ((stl_iff hc).mpr (Or.inl ⟨ht, y⟩))
theorem pc_mono {a b : Nat} (h : bsb a b) : pc12 a ≤ pc12 b := flt_le (fun i _ y => h i y)
theorem pc_add {a b c : Nat} (h1 : bsb a c) (h2 : bsb b c) (h3 : ∀ i, a.testBit i = true → b.testBit i = true → False) : pc12 a + pc12 b ≤ pc12 c := by
  unfold pc12
  rw [flt_split (fun i => c.testBit i) (fun i => a.testBit i)]
  have e1 : ((List.range 12).filter (fun i => a.testBit i)).length ≤ ((List.range 12).filter (fun i => c.testBit i && a.testBit i)).length := flt_le (fun i _ y => by
    have y : a.testBit i = true := y
    rw [y, h1 i y]; rfl)
  have e2 : ((List.range 12).filter (fun i => b.testBit i)).length ≤ ((List.range 12).filter (fun i => c.testBit i && !a.testBit i)).length := flt_le (fun i _ y => by
    have y : b.testBit i = true := y
    have : a.testBit i = false := Bool.eq_false_iff.mpr (fun w => h3 i w y)
    rw [this, h2 i y]; rfl)
  omega
theorem dim_there {c c' : Nat} (hV : vnt V) (hd : (dim V c 16).testBit c' = true) : (V c').1 = true := by
  obtain ⟨n, h1, h2, h3⟩ := (dim_bit V c c' 16).mp hd
  rw [dfm_bit, Bool.and_eq_true] at h3
  exact dfd_there hV (dim_12 hd) h3.2
end KE
/-- while the cells of w are settled: S from Y0, of which st is stale -/
def jS (V : Vr) (I : Nat → Int64) (sd : Int32) (w bh : Nat) (Y0 : Yr) (S : Sl) : Prop :=
  (∃ F G, Rok F G S.2.2.2.1 bh S.2.2.1) ∧ bsb S.1 (w &&& vcl V 12) ∧ (∀ c, c < 12 → w.testBit c = true → ¬ S.1.testBit c = true → (V c).1 = true → sti V S.2.2.1 0 I sd c = false) ∧
  (∀ c, c < 12 → w.testBit c = true → ¬ S.1.testBit c = true → (V c).1 = true → wr V c = 0 → ∀ c', (dim V c 16).testBit c' = true → ¬ S.1.testBit c' = true) ∧ (∀ c, S.1.testBit c = true → S.2.2.1 c = Y0.1 c) ∧
  (∀ c, c < 12 → ¬ (stC V (stA V Y0.1 0 I sd 12) 12).testBit c = true → S.2.2.1 c = Y0.1 c) ∧ (∀ c, ¬ (w &&& vcl V 12).testBit c = true → S.2.2.1 c = Y0.1 c) ∧
  S.2.1 + pc12 (S.1 &&& stC V (stA V Y0.1 0 I sd 12) 12) ≤ pc12 ((w &&& vcl V 12) &&& stC V (stA V Y0.1 0 I sd 12) 12) ∧ (∀ c, (S.2.2.1 c).2.1 = (Y0.1 c).2.1 ∨ (S.2.2.1 c).2.1 = (Y0.1 c).2.1 + 1) ∧ Y0.2.1 ≤ S.2.2.2.1 ∧ 0 < S.2.2.2.2
theorem rOn_runs {V : Vr} {I : Nat → Int64} {sd : Int32} {st0 c : Nat} {Y : Yr} : ((rOn V I sd st0 c Y).1 (st0 + c)).2.1 = (Y.1 (st0 + c)).2.1 + rOr V c := by
  rcases Nat.decEq (wr V c) 0 with hw | hw
  · rcases rOn_cases V I sd st0 c Y with ⟨-, e⟩ | ⟨y, -⟩ | ⟨y, -⟩
    · rw [e]
      show (rUp _ _ _ _).2.1 = _
      rw [rUp_s]
      unfold rOr
      rw [if_neg hw]
      rfl
    · exact absurd y hw
    · exact absurd y hw
  · rw [rOn_right hw]
    show (rUp _ _ _ _).2.1 = _
    rw [rUp_s]
    unfold rOr
    rw [if_pos hw]
    rfl
theorem jS_step {V : Vr} {I : Nat → Int64} {sd : Int32} {w bh : Nat} {Y0 : Yr} (hV : vnt V) (hC : ∀ c, c < 12 → ∀ q, q ∈ (V c).2 → cdk q.2) (hw : ∀ c, c < 12 → w.testBit c = true → (V c).1 = true → wr V c = 0 → ∀ c', (dim V c 16).testBit c' = true → w.testBit c' = true) : ∀ c S, c < 12 → jS V I sd w bh Y0 S → S.1.testBit c = true → (wr V c = 0 → ∀ c', (dim V c 16).testBit c' = true → S.1.testBit c' = false) → jS V I sd w bh Y0 (stS V I sd 0 c S) := by
  intro c S hc hj hb hd
  obtain ⟨⟨F, G, j1⟩, j2, j3, j4, j5, j6, j7, j8, j9, j10, j11⟩ := hj
  have hwc := j2 c hb
  rw [Nat.testBit_and, Bool.and_eq_true] at hwc
  have ht : (V c).1 = true := by
    have := hwc.2
    rw [vcl_bit, Bool.and_eq_true] at this
    exact this.2
  have hcon : S.1.testBit c = true ∧ ¬ (wr V c = 0 ∧ ¬ dim V c 16 &&& S.1 = 0) := ⟨hb, fun y => by
    obtain ⟨c', w1, w2⟩ := ne_and y.2
    rw [hd y.1 c' w1] at w2
    cases w2⟩
  have wb : ∀ x, (nb_wo S.1 (2 ^ c)).testBit x = true ↔ S.1.testBit x = true ∧ ¬ x = c := fun x => by
    rw [wo2_bit, Bool.and_eq_true]
    constructor
    · rintro ⟨y1, y2⟩
      refine ⟨y1, fun y => ?_⟩
      rw [y] at y2
      simp at y2
    · rintro ⟨y1, y2⟩
      refine ⟨y1, ?_⟩
      have : ¬ c = x := fun y => y2 y.symm
      simp [this]
  -- the cells that were settled before
  have hD : dcl V S.2.2.1 I sd (fun x => w.testBit x = true ∧ ¬ S.1.testBit x = true ∧ (V x).1 = true) := ⟨fun x hx y _ => j3 x hx y.1 y.2.1 y.2.2, fun x hx y hwx x' hd' => ⟨hw x hx y.1 y.2.2 hwx x' hd', j4 x hx y.1 y.2.1 y.2.2 hwx x' hd', dim_there hV hd'⟩⟩
  have j4' : ∀ x, x < 12 → w.testBit x = true → ¬ (nb_wo S.1 (2 ^ c)).testBit x = true → (V x).1 = true → wr V x = 0 → ∀ c', (dim V x 16).testBit c' = true → ¬ (nb_wo S.1 (2 ^ c)).testBit c' = true := fun x hx h1 h2 h3 h4 c' h5 h6 => by
    have h6 := (wb c').mp h6
    rcases Nat.decEq x c with hne | rfl
    · exact j4 x hx h1 (fun y => h2 ((wb x).mpr ⟨y, hne⟩)) h3 h4 c' h5 h6.1
    · rw [hd h4 c' h5] at h6
      cases h6.1
  have e0 : stS V I sd 0 c S = if sti V S.2.2.1 0 I sd c = true then (nb_wo S.1 (2 ^ c), S.2.1 + rOr V c, rOn V I sd 0 c S.2.2) else (nb_wo S.1 (2 ^ c), S.2) := if_pos hcon
  rw [e0]
  have hsub : bsb (nb_wo S.1 (2 ^ c)) S.1 := fun x y => ((wb x).mp y).1
  by_cases hs : sti V S.2.2.1 0 I sd c = true
  · rw [if_pos hs]
    have hst0 : (stC V (stA V Y0.1 0 I sd 12) 12).testBit c = true := by
      apply Classical.byContradiction
      intro hn
      have n1 := (ns_dcl (V := V) (I := I) (sd := sd) Y0.1).1 c hc hn ht
      have : sti V S.2.2.1 0 I sd c = sti V Y0.1 0 I sd c := sti_cong (by rw [Nat.zero_add]; exact j5 c hb) (fun hwr n hn' hbn => vin_same hn' hbn (fun c' hd' => by
        rw [Nat.zero_add]
        exact j6 c' (dim_12 hd') ((ns_dcl (V := V) (I := I) (sd := sd) Y0.1).2 c hc hn hwr c' hd')))
      rw [this, n1] at hs
      cases hs
    obtain ⟨F', G', k1, k2⟩ := Rok_on (F := F) (G := G) (bh := bh) (I := I) (sd := sd) (Y := S.2.2) j11 hc (hC c hc) j1 (fun hwr hbh k v hk hbk hv => by
      obtain ⟨c', o1, o2, o3, o4, o5⟩ := vin_some hv
      rw [Nat.zero_add] at o5
      have hdm := ow_dim hk hbk o1
      exact frm hV j1 hD (Or.inl hbh) (rk V c') c' rfl o2 ⟨hw c hc hwc.1 ht hwr c' hdm, (fun y => (by rw [hd hwr c' hdm] at y; cases y)), dim_there hV hdm⟩ o3 (dim_there hV hdm) k v o5)
    have same : ∀ x, ¬ x = c → (rOn V I sd 0 c S.2.2).1 x = S.2.2.1 x := fun x hx => rOn_o (by omega)
    refine ⟨⟨F', G', k2⟩, bsb_tr hsub j2, fun x hx h1 h2 h3 => ?_, j4', fun x hx => ?_, fun x hx h1 => ?_, fun x hx => ?_, ?_, fun x => ?_, Nat.le_trans j10 k1, by show 0 < (rOn V I sd 0 c S.2.2).2.2; rw [rOn_T]; omega⟩
    · show sti V (rOn V I sd 0 c S.2.2).1 0 I sd x = false
      rcases Nat.decEq x c with hne | rfl
      · have h2' : ¬ S.1.testBit x = true := fun y => h2 ((wb x).mpr ⟨y, hne⟩)
        have : sti V (rOn V I sd 0 c S.2.2).1 0 I sd x = sti V S.2.2.1 0 I sd x := sti_cong (by rw [Nat.zero_add]; exact same x hne) (fun hwr n hn' hbn => vin_same hn' hbn (fun c' hd' => by
          rw [Nat.zero_add]
          refine same c' (fun y => ?_)
          rw [y] at hd'
          exact j4 x hx h1 h2' h3 hwr c hd' hb))
        rw [this]
        exact j3 x hx h1 h2' h3
      · exact sti_run
    · have hx := (wb x).mp hx
      exact (same x hx.2).trans (j5 x hx.1)
    · exact (same x (fun y => h1 (by rw [y]; exact hst0))).trans (j6 x hx h1)
    · exact (same x (fun y => hx (by rw [y]; exact j2 c hb))).trans (j7 x hx)
    · show S.2.1 + rOr V c + pc12 (nb_wo S.1 (2 ^ c) &&& stC V (stA V Y0.1 0 I sd 12) 12) ≤ _
      have h1 : rOr V c ≤ 1 := by unfold rOr; split <;> omega
      have h2 : pc12 (nb_wo S.1 (2 ^ c) &&& stC V (stA V Y0.1 0 I sd 12) 12) < pc12 (S.1 &&& stC V (stA V Y0.1 0 I sd 12) 12) := pc_lt (i := c) (fun i y => by
        rw [Nat.testBit_and, Bool.and_eq_true] at y ⊢
        exact ⟨hsub i y.1, y.2⟩) hc (by rw [Nat.testBit_and, hb, hst0]; rfl) (by
        rw [Nat.testBit_and, Bool.eq_false_iff.mpr (fun y => ((wb c).mp y).2 rfl)]; rfl)
      omega
    · show ((rOn V I sd 0 c S.2.2).1 x).2.1 = _ ∨ _
      rcases Nat.decEq x c with hne | rfl
      · rw [same x hne]; exact j9 x
      · have e1 := rOn_runs (V := V) (I := I) (sd := sd) (st0 := 0) (c := x) (Y := S.2.2)
        rw [Nat.zero_add] at e1
        rw [e1, j5 x hb]
        unfold rOr
        split
        · exact Or.inr rfl
        · exact Or.inl rfl
  · rw [if_neg hs]
    refine ⟨⟨F, G, j1⟩, bsb_tr hsub j2, fun x hx h1 h2 h3 => ?_, j4', fun x hx => j5 x ((wb x).mp hx).1, j6, j7, ?_, j9, j10, j11⟩
    · rcases Nat.decEq x c with hne | rfl
      · exact j3 x hx h1 (fun y => h2 ((wb x).mpr ⟨y, hne⟩)) h3
      · exact Bool.eq_false_iff.mpr hs
    · have h2 : pc12 (nb_wo S.1 (2 ^ c) &&& stC V (stA V Y0.1 0 I sd 12) 12) ≤ pc12 (S.1 &&& stC V (stA V Y0.1 0 I sd 12) 12) := pc_mono (fun i y => by
        rw [Nat.testBit_and, Bool.and_eq_true] at y ⊢
        exact ⟨hsub i y.1, y.2⟩)
      show S.2.1 + pc12 (nb_wo S.1 (2 ^ c) &&& stC V (stA V Y0.1 0 I sd 12) 12) ≤ _
      omega
/-- what settling does -/
theorem stl_main {V : Vr} {I : Nat → Int64} {sd : Int32} {w bh : Nat} {Y0 : Yr} {F : Nat → Tr} {G : Gh} (hT : 0 < Y0.2.2) (hV : vnt V) (hC : ∀ c, c < 12 → ∀ q, q ∈ (V c).2 → cdk q.2) (hw : ∀ c, c < 12 → w.testBit c = true → (V c).1 = true → wr V c = 0 → ∀ c', (dim V c 16).testBit c' = true → w.testBit c' = true) (h : Rok F G Y0.2.1 bh Y0.1) : jS V I sd w bh Y0 (stl V I sd 0 w Y0) ∧ (stl V I sd 0 w Y0).1 = 0 := by
  refine stl_ind (jS V I sd w bh Y0) ⟨⟨F, G, h⟩, bsb_rf _, fun c hc h1 h2 h3 => ?_, fun c hc h1 h2 h3 => ?_, fun _ _ => rfl, fun _ _ _ => rfl, fun _ _ => rfl, ?_, fun _ => Or.inl rfl, Nat.le_refl _, hT⟩ (jS_step hV hC hw)
  · exact absurd (by rw [Nat.testBit_and, h1, vcl_bit, h3, decide_eq_true hc]; rfl) h2
  · exact absurd (by rw [Nat.testBit_and, h1, vcl_bit, h3, decide_eq_true hc]; rfl) h2
  · show 0 + pc12 ((w &&& vcl V 12) &&& stC V (stA V Y0.1 0 I sd 12) 12) ≤ _
    omega
/-- who is stale behind it -/
theorem stl_ns {V : Vr} {I : Nat → Int64} {sd : Int32} {w bh : Nat} {Y0 : Yr} {S : Sl} (hV : vnt V) (hw : ∀ c, c < 12 → w.testBit c = true → (V c).1 = true → wr V c = 0 → ∀ c', (dim V c 16).testBit c' = true → w.testBit c' = true) (j : jS V I sd w bh Y0 S) (h0 : S.1 = 0) : ∀ c, c < 12 → ((w.testBit c = true ∧ (V c).1 = true) ∨ ¬ (stC V (stA V Y0.1 0 I sd 12) 12).testBit c = true) → ¬ (stC V (stA V S.2.2.1 0 I sd 12) 12).testBit c = true := by
  obtain ⟨-, j2, j3, j4, j5, j6, j7, j8, j9, j10⟩ := j
  have p0 : ∀ x, ¬ S.1.testBit x = true := fun x y => by rw [h0, Nat.zero_testBit] at y; cases y
  intro c hc hd
  refine dcl_ns (D := fun x => (w.testBit x = true ∧ (V x).1 = true) ∨ ¬ (stC V (stA V Y0.1 0 I sd 12) 12).testBit x = true) ⟨fun x hx y ht => ?_, fun x hx y hwr c' hd' => ?_⟩ (rk V c) c rfl hc hd
  · rcases y with y | y
    · exact j3 x hx y.1 (p0 x) ht
    · have n1 := (ns_dcl (V := V) (I := I) (sd := sd) Y0.1).1 x hx y ht
      rw [← n1]
      refine sti_cong (by rw [Nat.zero_add]; exact j6 x hx y) (fun hwr n hn' hbn => vin_same hn' hbn (fun c' hd' => ?_))
      rw [Nat.zero_add]
      exact j6 c' (dim_12 hd') ((ns_dcl (V := V) (I := I) (sd := sd) Y0.1).2 x hx y hwr c' hd')
  · rcases y with y | y
    · exact Or.inl ⟨hw x hx y.1 y.2 hwr c' hd', dim_there hV hd'⟩
    · exact Or.inr ((ns_dcl (V := V) (I := I) (sd := sd) Y0.1).2 x hx y hwr c' hd')
/-- how many were run, and how many are stale then -/
theorem stl_cnt {V : Vr} {I : Nat → Int64} {sd : Int32} {w bh : Nat} {Y0 : Yr} {S : Sl} (hV : vnt V) (hw : ∀ c, c < 12 → w.testBit c = true → (V c).1 = true → wr V c = 0 → ∀ c', (dim V c 16).testBit c' = true → w.testBit c' = true) (j : jS V I sd w bh Y0 S) (h0 : S.1 = 0) : S.2.1 + pc12 (stC V (stA V S.2.2.1 0 I sd 12) 12) ≤ pc12 (stC V (stA V Y0.1 0 I sd 12) 12) := by
  have ns := stl_ns hV hw j h0
  obtain ⟨-, -, -, -, -, -, -, j8, -⟩ := j
  have hlt : ∀ (RR : Nat → Rs) (i : Nat), (stC V (stA V RR 0 I sd 12) 12).testBit i = true → i < 12 := fun RR i => bits_lt (stC_lt (stA_lt 12 (Nat.le_refl _)) 12) i
  have := pc_add (a := stC V (stA V S.2.2.1 0 I sd 12) 12) (b := (w &&& vcl V 12) &&& stC V (stA V Y0.1 0 I sd 12) 12) (c := stC V (stA V Y0.1 0 I sd 12) 12) (fun i y => by
    apply Classical.byContradiction
    intro hn
    exact ns i (hlt _ i y) (Or.inr hn) y) (fun i y => by rw [Nat.testBit_and, Bool.and_eq_true] at y; exact y.2) (fun i y1 y2 => by
    rw [Nat.testBit_and, Nat.testBit_and, Bool.and_eq_true, Bool.and_eq_true, vcl_bit, Bool.and_eq_true] at y2
    exact ns i (hlt _ i y1) (Or.inl ⟨y2.1.1, y2.1.2.2⟩) y1)
  omega
