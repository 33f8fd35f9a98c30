/-! The runs that are led to, in a list. -/
def hasL (st0 : Nat) (RR : Nat → Rs) (L : List Nat) : Prop := ∀ c, c < 12 → ∀ n v, (n, v) ∈ rK (RR (st0 + c)) → rP (fun r => r ∈ L) v
theorem outC_rd {D : Nat → Prop} {C : Cd} {I : Nat → Int64} {sd : Int32} {cl B rid : Nat} {W : Nat → Option Tr} (hr : D rid) (hC : ∀ q, q ∈ C → cdk q.2) (hW : ∀ k v, k < 16 → (rds C).testBit k = true → W k = some v → rP D v) : ∀ n v, (n, v) ∈ (outC C I sd cl W B rid).2.1 → rP D v := by
  obtain ⟨-, k2, -⟩ := outC_R (cl := cl) (C := C) (W := W) (W' := W) (lrw_rP (I := I) (sd := sd) (rid := rid) (B := B) (D := D) hr) ⟨rfl, fun r y => absurd y id⟩ (lK_rf (fun n e y => ⟨rfl, fun r y' => absurd y' (rdt_wE (hC (n, e) y).1)⟩)) (fun k hk hb => by
    cases hw : W k with
    | none => exact Or.inl ⟨rfl, rfl⟩
    | some v => exact Or.inr ⟨v, v, rfl, rfl, rfl, hW k v hk hb hw⟩)
  exact lK_mem k2
section LI
variable {V : Vr} {I : Nat → Int64} {sd : Int32}
theorem rP_up {D D' : Nat → Prop} (h : ∀ r, D r → D' r) {t : Tr} (z : rP D t) : rP D' t := fun r y => h r (z r y)
theorem hasL_on {st0 c : Nat} {Y : Yr} {L : List Nat} (hc : c < 12) (hC : ∀ q, q ∈ (V c).2 → cdk q.2) (h : hasL st0 Y.1 L) : hasL st0 (rOn V I sd st0 c Y).1 (if wr V c = 0 then Y.2.2 :: L else L) := by
  rcases Nat.decEq (wr V c) 0 with hw | hw
  · rw [if_neg hw]
    intro x hx n v hm
    rcases Nat.decEq x c with hne | rfl
    · rw [rOn_o (by omega)] at hm; exact h x hx n v hm
    · rcases rOn_cases V I sd st0 x Y with ⟨-, e⟩ | ⟨y, -⟩ | ⟨y, -⟩
      · rw [e] at hm
        have hm : (n, v) ∈ rK (rUp _ _ _ _) := hm
        rw [rUp_s] at hm
        cases hm
      · exact absurd y hw
      · exact absurd y hw
  · rw [if_pos hw]
    intro x hx n v hm
    rcases Nat.decEq x c with hne | rfl
    · rw [rOn_o (by omega)] at hm
      exact rP_up (fun r y => List.mem_cons_of_mem _ y) (h x hx n v hm)
    · rw [rOn_right hw] at hm
      have hm : (n, v) ∈ rK (rUp _ _ _ _) := hm
      rw [rUp_s] at hm
      refine outC_rd (D := fun r => r ∈ Y.2.2 :: L) (List.mem_cons_self ..) hC (fun k u hk hb hu => ?_) n v hm
      obtain ⟨c', o1, o2, o3, o4, o5⟩ := vin_some hu
      exact rP_up (fun r y => List.mem_cons_of_mem _ y) (h c' o2 k u o5)
/-- what settling adds -/
theorem stl_L {st0 w : Nat} {Y : Yr} (hT : 0 < Y.2.2) (hC : ∀ c, c < 12 → ∀ q, q ∈ (V c).2 → cdk q.2) (hr : ∀ i, i < 24 → (Y.1 i).2.1 ≤ Y.2.2) : (∀ L : List Nat, ¬ 0 ∈ L → hasL st0 Y.1 L → ∃ L' : List Nat, L'.length ≤ L.length + (stl V I sd st0 w Y).2.1 ∧ ¬ 0 ∈ L' ∧ hasL st0 (stl V I sd st0 w Y).2.2.1 L') ∧ (stl V I sd st0 w Y).2.2.2.2 ≤ Y.2.2 + 12 ∧ 0 < (stl V I sd st0 w Y).2.2.2.2 ∧ (∀ i, i < 24 → ((stl V I sd st0 w Y).2.2.1 i).2.1 ≤ (stl V I sd st0 w Y).2.2.2.2) ∧ (∀ i, ¬ (st0 ≤ i ∧ i < st0 + 12) → (stl V I sd st0 w Y).2.2.1 i = Y.1 i) ∧ Y.2.1 ≤ (stl V I sd st0 w Y).2.2.2.1 := by
  obtain ⟨J, hJ⟩ : ∃ J : Sl → Prop, J = (fun S => (∀ L : List Nat, ¬ 0 ∈ L → hasL st0 Y.1 L → ∃ L' : List Nat, L'.length ≤ L.length + S.2.1 ∧ ¬ 0 ∈ L' ∧ hasL st0 S.2.2.1 L') ∧ S.2.2.2.2 + pc12 S.1 ≤ Y.2.2 + 12 ∧ 0 < S.2.2.2.2 ∧ (∀ i, i < 24 → (S.2.2.1 i).2.1 ≤ S.2.2.2.2) ∧ (∀ i, ¬ (st0 ≤ i ∧ i < st0 + 12) → S.2.2.1 i = Y.1 i) ∧ Y.2.1 ≤ S.2.2.2.1) := ⟨_, rfl⟩
  have step : ∀ c S, c < 12 → J S → S.1.testBit c = true → (wr V c = 0 → ∀ c', (dim V c 16).testBit c' = true → S.1.testBit c' = false) → J (stS V I sd st0 c S) := by
    rw [hJ]
    intro c S hc hj hb hd
    obtain ⟨jL, j2, j3, j4, j5, j6⟩ := hj
    have hcon : S.1.testBit c = true ∧ ¬ (wr V c = 0 ∧ ¬ dim V c 16 &&& S.1 = 0) := ⟨hb, fun y => by
      obtain ⟨c', w1, w2⟩ := ne_and y.2
      rw [hd y.1 c' w1] at w2
      cases w2⟩
    have hpc := pc_wo hc hb
    have e0 : stS V I sd st0 c S = if sti V S.2.2.1 st0 I sd c = true then (nb_wo S.1 (2 ^ c), S.2.1 + rOr V c, rOn V I sd st0 c S.2.2) else (nb_wo S.1 (2 ^ c), S.2) := if_pos hcon
    rw [e0]
    split
    · refine ⟨fun L h0 hL => ?_, ?_, ?_, fun i hi => ?_, fun i hi => ?_, ?_⟩
      · obtain ⟨L', l1, l2, l3⟩ := jL L h0 hL
        refine ⟨if wr V c = 0 then S.2.2.2.2 :: L' else L', ?_, ?_, hasL_on hc (hC c hc) l3⟩
        · show _ ≤ L.length + (S.2.1 + rOr V c)
          unfold rOr
          split
          · rw [List.length_cons]; omega
          · omega
        · split
          · intro y
            rcases List.mem_cons.mp y with y | y
            · omega
            · exact l2 y
          · exact l2
      · show (rOn V I sd st0 c S.2.2).2.2 + pc12 (nb_wo S.1 (2 ^ c)) ≤ _
        rw [rOn_T]
        omega
      · show 0 < (rOn V I sd st0 c S.2.2).2.2
        rw [rOn_T]; omega
      · show ((rOn V I sd st0 c S.2.2).1 i).2.1 ≤ (rOn V I sd st0 c S.2.2).2.2
        rw [rOn_T]
        have := j4 i hi
        rcases Nat.decEq i (st0 + c) with hne | rfl
        · rw [rOn_o hne]; omega
        · rw [rOn_runs]
          have h1 : rOr V c ≤ 1 := by unfold rOr; split <;> omega
          omega
      · show (rOn V I sd st0 c S.2.2).1 i = _
        rw [rOn_o (by omega)]
        exact j5 i hi
      · refine Nat.le_trans j6 ?_
        show S.2.2.2.1 ≤ (rOn V I sd st0 c S.2.2).2.1
        rcases Nat.decEq (wr V c) 0 with hw | hw
        · rcases rOn_cases V I sd st0 c S.2.2 with ⟨-, e⟩ | ⟨y, -⟩ | ⟨y, -⟩
          · rw [e]; exact Nat.le_refl _
          · exact absurd y hw
          · exact absurd y hw
        · rw [rOn_right hw]
          exact outC_B
    · exact ⟨jL, by show S.2.2.2.2 + pc12 (nb_wo S.1 (2 ^ c)) ≤ _; omega, j3, j4, j5, j6⟩
  have base : J (w &&& vcl V 12, 0, Y) := by
    rw [hJ]
    exact ⟨fun L h0 h => ⟨L, by show L.length ≤ L.length + 0; omega, h0, h⟩, by have := pc_le (w &&& vcl V 12); show Y.2.2 + pc12 (w &&& vcl V 12) ≤ Y.2.2 + 12; omega, hT, hr, fun _ _ => rfl, Nat.le_refl _⟩
  have key := (stl_ind (V := V) (I := I) (sd := sd) (st0 := st0) (w := w) (Y := Y) J base step).1
  rw [hJ] at key
  obtain ⟨k1, k2, k3, k4, k5, k6⟩ := key
  exact ⟨k1, by omega, k3, k4, k5, k6⟩
/-- an error keeps nothing -/
theorem rok_K {F : Nat → Tr} {G : Gh} {B bh i : Nat} {R : Rs} (h : rok F G B bh i R) (he : ¬ R.1 = 0) : rK R = [] := by
  rcases h.1 with y | ⟨B0, T0, I0, r1, r2, r3, -⟩
  · exact y.2
  · rcases outC_n (C := rC R) (I := I0) (sd := rS R) (cl := i) (B := B0) (rid := T0) (W := rW R) with ⟨y, -⟩ | ⟨-, y⟩
    · exact absurd (r2.trans y) he
    · exact r3.trans y
/-- where nothing is stale all runs are the last ones -/
theorem rst12 {F : Nat → Tr} {G : Gh} {B bh : Nat} {RR : Nat → Rs} (hV : vnt V) (hR : Rok F G B bh RR) (hs : ∀ c, c < 12 → (V c).1 = true → sti V RR 0 I sd c = false) (h0 : ∀ c, c < 12 → (V c).1 = false → rK (RR c) = []) : ∃ L : List Nat, L.length = 12 ∧ ¬ 0 ∈ L ∧ hasL 0 RR L := by
  have hcur : ∀ c, ∃ t, 0 < t ∧ (c < 12 → rno (RR c) ∨ ∃ (B0 : Nat) (I0 : Nat → Int64), rK (RR c) = (outC (rC (RR c)) I0 (rS (RR c)) c (rW (RR c)) B0 t).2.1 ∧ ∀ q, q ∈ rC (RR c) → cdk q.2) := fun c => by
    by_cases hc : c < 12
    · rcases (hR c hc).1 with y | ⟨B0, T0, I0, r1, r2, r3, r4, r5, r6, r7, r8, r9⟩
      · exact ⟨1, by omega, fun _ => Or.inl y⟩
      · exact ⟨T0, r9, fun _ => Or.inr ⟨B0, I0, r3, r7⟩⟩
    · exact ⟨1, by omega, fun y => absurd y hc⟩
  obtain ⟨cur, hcu⟩ := Classical.axiomOfChoice hcur
  refine ⟨(List.range 12).map cur, by simp, fun y => ?_, ?_⟩
  · obtain ⟨c, -, e⟩ := List.mem_map.mp y
    have := (hcu c).1
    omega
  have main : ∀ (m c : Nat), rk V c = m → c < 12 → wr V c = 0 → (V c).1 = true → ∀ n v, (n, v) ∈ rK (RR c) → rP (fun r => r ∈ (List.range 12).map cur) v := by
    intro m
    induction m using Nat.strongRecOn with
    | _ m ih =>
      intro c hr hc hw ht n v hm
      obtain ⟨hrun, e, -, hW⟩ := run_of hc hR hw (hs c hc ht)
      rcases (hcu c).2 hc with y | ⟨B0, I0, y1, y2⟩
      · rw [y.2] at hm; cases hm
      · rw [y1] at hm
        refine outC_rd (D := fun r => r ∈ (List.range 12).map cur) (List.mem_map.mpr ⟨c, List.mem_range.mpr hc, rfl⟩) y2 (fun k u hk hb hu => ?_) n v hm
        rw [e] at hb
        rw [hW k hk hb] at hu
        obtain ⟨c', o1, o2, o3, o4, o5⟩ := vin_some hu
        rw [Nat.zero_add] at o5
        have hdm := ow_dim hk hb o1
        exact ih (rk V c') (by have := rk_lt hw hdm o2; omega) c' rfl o2 o3 (dim_there hV hdm) k u o5
  intro c hc n v hm
  rw [Nat.zero_add] at hm
  cases ht : (V c).1 with
  | false => rw [h0 c hc ht] at hm; cases hm
  | true =>
    rcases Nat.decEq (wr V c) 0 with hw | hw
    · have h1 := (sti_w hw).mp (hs c hc ht)
      rw [Nat.zero_add] at h1
      have h2 : ¬ (RR c).1 = 0 := fun y => by
        rw [y] at h1
        have := wr_le V c
        rcases (show wr V c = 1 ∨ wr V c = 2 ∨ wr V c = 3 by omega) with h | h | h <;> rw [h] at h1 <;> exact absurd h1 (by decide)
      rw [rok_K (hR c hc) h2] at hm
      cases hm
    · exact main (rk V c) c rfl hc hw ht n v hm
end LI
/-! What links tell is of the code alone. -/
section V2
variable {V V' : Vr}
theorem v2_dfm (h : ∀ c, (V' c).2 = (V c).2) (n : Nat) : ∀ k, dfm V' n k = dfm V n k
  | 0 => rfl
  | k + 1 => by rw [dfm_s, dfm_s, v2_dfm h n k, h k]
theorem v2_ow (h : ∀ c, (V' c).2 = (V c).2) (n : Nat) : ∀ k, ow V' n k = ow V n k
  | 0 => rfl
  | k + 1 => by
    show (if cnt n (V' k).2 = 0 then ow V' n k else if cnt n (V' k).2 = 1 ∧ dfm V' n k = 0 then some k else none) = (if cnt n (V k).2 = 0 then ow V n k else if cnt n (V k).2 = 1 ∧ dfm V n k = 0 then some k else none)
    rw [h k, v2_ow h n k, v2_dfm h n k]
theorem v2_dim (h : ∀ c, (V' c).2 = (V c).2) (c : Nat) : ∀ k, dim V' c k = dim V c k
  | 0 => rfl
  | k + 1 => by
    show dim V' c k ||| (if (rds (V' c).2).testBit k then dfm V' k 12 else 0) = dim V c k ||| (if (rds (V c).2).testBit k then dfm V k 12 else 0)
    rw [v2_dim h c k, h c, v2_dfm h k 12]
theorem v2_wn (h : ∀ c, (V' c).2 = (V c).2) : ∀ k, wn V' k = wn V k
  | 0 => by funext c; exact v2_dim h c 16
  | k + 1 => by
    show wst k (wn V' k) = wst k (wn V k)
    rw [v2_wn h k]
theorem v2_wr (h : ∀ c, (V' c).2 = (V c).2) (c : Nat) : wr V' c = wr V c := by
  have e1 : wrA V' c = wrA V c := by
    funext n
    unfold wrA
    rw [h c, v2_ow h n 12]
  have e2 : wrB V' c = wrB V c := by
    funext n
    unfold wrB
    rw [h c, v2_dfm h n 12]
  unfold wr
  rw [e1, e2, v2_wn h 12]
theorem v2_vin (h : ∀ c, (V' c).2 = (V c).2) (RR : Nat → Rs) (st0 n : Nat) : vin V' RR st0 n = vin V RR st0 n := by
  unfold vin src
  rw [v2_ow h n 12]
  cases ow V n 12 with
  | none => rfl
  | some c =>
    dsimp only
    rw [v2_wr h c]
theorem v2_sti (h : ∀ c, (V' c).2 = (V c).2) (RR : Nat → Rs) (st0 : Nat) (I : Nat → Int64) (sd : Int32) (c : Nat) : sti V' RR st0 I sd c = sti V RR st0 I sd c := by
  have e : chg V' RR st0 c = chg V RR st0 c := by
    funext n
    unfold chg
    rw [h c, v2_vin h RR st0 n]
  unfold sti
  rw [v2_wr h c, h c, e]
end V2
