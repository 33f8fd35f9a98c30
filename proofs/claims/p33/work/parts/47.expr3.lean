/-! Expr: countFree, exchanged. -/
def cfr (nm : Nat) : Tr → Nat
  | .inner k l u a (.inner k2 l2 u2 b c) => if (fre (.inner k l u a (.inner k2 l2 u2 b c))).testBit nm then (if l.1 = 1 then 1 else cfr nm a + (if l.1 = 6 ∧ l.2.1 = nm then 0 else cfr nm b) + cfr nm c) else 0
  | _ => 0
def xgd (nm ot : Nat) : Tr → Tr
  | .inner k l u a (.inner k2 l2 u2 b c) => if (fre (.inner k l u a (.inner k2 l2 u2 b c))).testBit nm then (if l.1 = 1 then tE 1 ot 0 .leaf .leaf .leaf else tE l.1 l.2.1 l.2.2 (xgd nm ot a) (if l.1 = 6 ∧ l.2.1 = nm then b else xgd nm ot b) (xgd nm ot c)) else .inner k l u a (.inner k2 l2 u2 b c)
  | e => e
theorem cfr_E (nm s w : Nat) (n : Int64) (a b c : Tr) : cfr nm (tE s w n a b c) = if (fre (tE s w n a b c)).testBit nm then (if s = 1 then 1 else cfr nm a + (if s = 6 ∧ w = nm then 0 else cfr nm b) + cfr nm c) else 0 := rfl
theorem xgd_E (nm ot s w : Nat) (n : Int64) (a b c : Tr) : xgd nm ot (tE s w n a b c) = if (fre (tE s w n a b c)).testBit nm then (if s = 1 then tE 1 ot 0 .leaf .leaf .leaf else tE s w n (xgd nm ot a) (if s = 6 ∧ w = nm then b else xgd nm ot b) (xgd nm ot c)) else tE s w n a b c := rfl
theorem pts_xgd (nm ot : Nat) : ∀ e : Tr, pts (xgd nm ot e) ≤ pts e ∧ dep (xgd nm ot e) ≤ dep e
  | .leaf => ⟨Nat.le_refl _, Nat.le_refl _⟩
  | .inner _ _ _ _ .leaf => ⟨Nat.le_refl _, Nat.le_refl _⟩
  | .inner k l u a (.inner k2 l2 u2 b c) => by
    have ia := pts_xgd nm ot a
    have ib' := pts_xgd nm ot b
    have ic := pts_xgd nm ot c
    unfold xgd
    split
    · split
      · exact ⟨by show 1 + 0 + 0 + 0 ≤ 1 + pts a + pts b + pts c; omega, by show 1 + max 0 (max 0 0) ≤ 1 + max (dep a) (max (dep b) (dep c)); omega⟩
      · rw [pts_E, dep_E]
        have : pts (if l.1 = 6 ∧ l.2.1 = nm then b else xgd nm ot b) ≤ pts b ∧ dep (if l.1 = 6 ∧ l.2.1 = nm then b else xgd nm ot b) ≤ dep b := by
          split
          · exact ⟨Nat.le_refl _, Nat.le_refl _⟩
          · exact ib'
        exact ⟨by show _ ≤ 1 + pts a + pts b + pts c; omega, by show _ ≤ 1 + max (dep a) (max (dep b) (dep c)); omega⟩
    · exact ⟨Nat.le_refl _, Nat.le_refl _⟩
/-- an expr not yet made -/
def nb_d9 : List Value := [.int 0, .int 0, .long 0, .null, .null, .null, .int 0, .int 0, .int 0, .int 0, .int 0]
theorem ec_ne {h : re_H} {s w : Nat} {n : Int64} {va vb vc : Value} {a b c : Tr} (ha : ex h a va) (hb : ex h b vb) (hc : ex h c vc) : ¬ nb_ec s w n va vb vc (tE s w n a b c) = (9, nb_d9) := fun z => by
  simp only [nb_ec, nb_d9, Prod.mk.injEq, List.cons.injEq, true_and] at z
  obtain ⟨-, -, -, rfl, rfl, rfl, z1, -⟩ := z
  rw [pts_E, ex_null ha, ex_null hb, ex_null hc] at z1
  have : i32 1 = 0 := by injection z1
  exact absurd this (by decide)
theorem ex_keep2 {h h' : re_H} (kk : ∀ x w, re_hg h x = some (9, w) → ¬ w = nb_d9 → re_hg h' x = some (9, w)) : ∀ {e : Tr} {v : Value}, ex h e v → ex h' e v := by
  intro e
  match e with
  | .leaf => exact fun {v} z => z
  | .inner k0 l u a .leaf => exact fun {v} z => absurd z id
  | .inner k0 l u a (.inner k2 l2 u2 b c) =>
    intro v z
    obtain ⟨h1, x, va, vb, vc, h2, h3, h4, h5, h6⟩ := z
    exact ⟨h1, x, va, vb, vc, h2, kk _ _ h3 (fun y => ec_ne h4 h5 h6 (Prod.ext rfl y)), ex_keep2 kk h4, ex_keep2 kk h5, ex_keep2 kk h6⟩
theorem pt_d9 {h : re_H} {a0 : Nat} {e : Tr} {v : Value} (hd : re_hg h a0 = some (9, nb_d9)) (z : ex h e v) : nb_pt h a0 e v := by
  rcases ex_cases z with ⟨h1, h2⟩ | ⟨s, w, n, a, b, c, x, va, vb, vc, rfl, rfl, -, h3, h4, h5, h6⟩
  · exact Or.inl ⟨h2, h1⟩
  · have hne : ¬ x = a0 := fun y => by
      subst y
      rw [h3] at hd
      exact ec_ne h4 h5 h6 (Option.some.inj hd)
    exact Or.inr ⟨x, rfl, hne, ex_fd z⟩
theorem ex_ob {h h' : re_H} {a0 : Nat} {w1 : List Value} (hd : re_hg h a0 = some (9, nb_d9)) (o : nb_ob h a0 9 w1 h') {e : Tr} {v : Value} (z : ex h e v) : ex h' e v :=
  ex_keep2 (fun x w h1 h2 => by
    rw [o.2.2 x (fun y => by subst y; rw [h1] at hd; cases hd; exact h2 rfl)]
    exact h1) z
section EX
variable {SC : List Value}
theorem c642 (nm : Nat) (hn : nm < 16) {e : Tr} : ∀ {d : Nat} {v : Value} {q : Nat} {h : re_H} {Q : Nat → Value → re_H → Prop}, ex h e v → dep e ≤ d → Q 1 (.int (i32 (cfr nm e))) h → wp SC 642 d q 0 [(0, v), (1, .int (i32 nm))] [] h Q := by
  match e with
  | .leaf =>
    intro d v q h Q z hd K
    cases (show v = .null from z)
    exact B642_0 (Or.inl rfl) (fun _ => B642_12 K) (fun b hb => by cases hb)
  | .inner k0 l u a .leaf => exact fun {d v q h Q} z => absurd z id
  | .inner k0 l u a (.inner k2 l2 u2 b c) =>
    intro d v q h Q z hd K
    have z' := z
    obtain ⟨⟨rfl, rfl, rfl, h1, h2⟩, x, va, vb, vc, rfl, h3, h4, h5, h6⟩ := z
    have hd' : 1 + max (dep a) (max (dep b) (dep c)) ≤ d := hd
    obtain ⟨d, rfl⟩ : ∃ k, d = k + 1 := ⟨d - 1, by omega⟩
    have K' : Q 1 (.int (i32 (cfr nm (tE l.1 l.2.1 l.2.2 a b c)))) h := K
    rw [cfr_E] at K'
    refine B642_0 (Or.inr ⟨x, rfl⟩) (fun hb => by cases hb) (fun y hy => ?_)
    cases hy
    refine B642_4 h3 rfl (c643 z' hn (ret1 ?_))
    refine B642_9 (fun g => ?_) (fun g => ?_)
    rotate_left
    · rw [if_neg (by have := ib_0.mp g; intro y; rw [show fre (tE l.1 l.2.1 l.2.2 a b c) = fre (.inner 0 l u a (.inner 1 (0, 0, 0) u2 b c)) from rfl, this] at y; cases y)] at K'
      exact B642_12 K'
    have gt : (fre (tE l.1 l.2.1 l.2.2 a b c)).testBit nm = true := by
      cases ht : (fre (tE l.1 l.2.1 l.2.2 a b c)).testBit nm with
      | true => rfl
      | false => exact absurd (ib_0.mpr ht) g
    rw [if_pos gt] at K'
    refine B642_14 ⟨_, h3, rfl⟩ (fun g1 => ?_) (fun g1 => ?_)
    rotate_left
    · rw [if_pos ((i3_eq (by omega) (by omega)).mp g1)] at K'
      exact B642_22 K'
    rw [if_neg (fun y => g1 (by rw [y]))] at K'
    have go : ∀ z : Bool, z = decide (l.1 = 6 ∧ l.2.1 = nm) → wp SC 642 (d + 1) q 46 [(0, .ref x), (1, .int (i32 nm))] [.int (ib z)] h Q := fun z hz => by
      refine B642_46 (ex_R h4) ⟨_, h3, rfl⟩ (c642 nm hn h4 (by omega) (ret1 ?_))
      have last : ∀ k : Nat, k = (if l.1 = 6 ∧ l.2.1 = nm then 0 else cfr nm b) → wp SC 642 (d + 1) q 71 [(0, .ref x), (1, .int (i32 nm))] [.int (i32 k), .int (i32 (cfr nm a))] h Q := fun k hk => by
        refine B642_71 (ex_R h6) ⟨_, h3, rfl⟩ (c642 nm hn h6 (by omega) (ret1 (B642_80 ?_)))
        rw [i3_add, i3_add, hk]
        exact K'
      refine B642_55 (fun g => ?_) (fun g => B642_59 (last 0 ?_))
      · refine B642_63 (ex_R h5) ⟨_, h3, rfl⟩ (c642 nm hn h5 (by omega) (ret1 (last _ ?_)))
        have := ib_0.mp g
        rw [hz] at this
        rw [if_neg (of_decide_eq_false this)]
      · have : z = true := by cases z with
          | true => rfl
          | false => exact absurd rfl g
        rw [hz] at this
        rw [if_pos (of_decide_eq_true this)]
    refine B642_24 ⟨_, h3, rfl⟩ (fun g2 => B642_45 (go false ?_)) (fun g2 => B642_33 ⟨_, h3, rfl⟩ (fun g3 => B642_45 (go false ?_)) (fun g3 => B642_41 (go true ?_)))
    · exact (decide_eq_false (fun y => g2 (by rw [y.1]))).symm
    · exact (decide_eq_false (fun y => g3 (by rw [y.2]))).symm
    · exact (decide_eq_true ⟨(i3_eq (by omega) (by omega)).mp g2, (i3_eq (by omega) (by omega)).mp g3⟩).symm
theorem xk_none {h h' : re_H} (k : kp (fun _ => False) h h') : xk h h' := xk_kp k (fun _ z => z.elim)
theorem c644 (nm ot : Nat) (hn : nm < 16) (ho : ot < 16) {e : Tr} : ∀ {d : Nat} {v : Value} {q : Nat} {h : re_H} {Q : Nat → Value → re_H → Prop}, ex h e v → dep e ≤ d → (∀ v' h', ex h' (xgd nm ot e) v' → kp (fun _ => False) h h' → h'.1 ≤ h.1 + pts e → Q 3 v' h') → wp SC 644 d q 0 [(0, v), (1, .int (i32 nm)), (2, .int (i32 ot))] [] h Q := by
  match e with
  | .leaf =>
    intro d v q h Q z hd K
    cases (show v = .null from z)
    exact B644_0 (Or.inl rfl) (fun _ => B644_12 (Or.inl rfl) (K _ _ rfl kp_rf (Nat.le_add_right _ _))) (fun b hb => by cases hb)
  | .inner k0 l u a .leaf => exact fun {d v q h Q} z => absurd z id
  | .inner k0 l u a (.inner k2 l2 u2 b c) =>
    intro d v q h Q z hd K
    have z' := z
    obtain ⟨⟨rfl, rfl, rfl, h1, h2⟩, x, va, vb, vc, rfl, h3, h4, h5, h6⟩ := z
    have hd' : 1 + max (dep a) (max (dep b) (dep c)) ≤ d := hd
    obtain ⟨d, rfl⟩ : ∃ k, d = k + 1 := ⟨d - 1, by omega⟩
    have K' : ∀ v' h', ex h' (xgd nm ot (tE l.1 l.2.1 l.2.2 a b c)) v' → kp (fun _ => False) h h' → h'.1 ≤ h.1 + (1 + pts a + pts b + pts c) → Q 3 v' h' := K
    rw [xgd_E] at K'
    refine B644_0 (Or.inr ⟨x, rfl⟩) (fun hb => by cases hb) (fun y hy => ?_)
    cases hy
    refine B644_4 h3 rfl (c643 z' hn (ret1 ?_))
    refine B644_9 (fun g => ?_) (fun g => ?_)
    rotate_left
    · rw [if_neg (by have := ib_0.mp g; intro y; rw [show fre (tE l.1 l.2.1 l.2.2 a b c) = fre (.inner 0 l u a (.inner 1 (0, 0, 0) u2 b c)) from rfl, this] at y; cases y)] at K'
      exact B644_12 (Or.inr ⟨x, rfl⟩) (K' _ _ z' kp_rf (Nat.le_add_right _ _))
    have gt : (fre (tE l.1 l.2.1 l.2.2 a b c)).testBit nm = true := by
      cases ht : (fre (tE l.1 l.2.1 l.2.2 a b c)).testBit nm with
      | true => rfl
      | false => exact absurd (ib_0.mpr ht) g
    rw [if_pos gt] at K'
    refine B644_14 ⟨_, h3, rfl⟩ (fun g1 => ?_) (fun g1 => ?_)
    rotate_left
    · rw [if_pos ((i3_eq (by omega) (by omega)).mp g1)] at K'
      refine B644_22 ?_
      refine B644_25 hq_s rfl (c640 (s := 1) (w := ot) (n := 0) (a := .leaf) (b := .leaf) (c := .leaf) hq_s rfl (by omega) ho (Or.inl ⟨rfl, rfl⟩) (Or.inl ⟨rfl, rfl⟩) (Or.inl ⟨rfl, rfl⟩) (fun h' o => ret0 (B644_35 (K' _ _ ?_ ?_ ?_))))
      · exact ex_E.mpr ⟨⟨by omega, ho⟩, _, _, _, _, rfl, o.2.1, rfl, rfl, rfl⟩
      · exact ⟨by rw [o.1]; exact Nat.le_succ _, fun y hy _ => by rw [o.2.2 y (by omega)]; exact hq_o hy⟩
      · rw [o.1, hq_1]; omega
    rw [if_neg (fun y => g1 (by rw [y]))] at K'
    have go : ∀ z : Bool, z = decide (l.1 = 6 ∧ l.2.1 = nm) → wp SC 644 (d + 1) q 58 [(0, .ref x), (1, .int (i32 nm)), (2, .int (i32 ot))] [.int (ib z)] h Q := fun z hz => by
      refine B644_58 ?_
      have kq : kp (fun _ => False) h (re_hq h (9, [.int 0, .int 0, .long 0, .null, .null, .null, .int 0, .int 0, .int 0, .int 0, .int 0])) := kp_hq
      have xq := xk_none kq
      refine B644_62 ⟨_, xq _ _ h3, rfl⟩ ⟨_, xq _ _ h3, rfl⟩ ⟨_, xq _ _ h3, rfl⟩ (ex_R h4) ⟨_, xq _ _ h3, rfl⟩ (c644 nm ot hn ho (ex_xk xq h4) (by omega) (fun va' ha' ea' ka' la' => ret3 ?_))
      have xa := xk_none ka'
      have last : ∀ (vb' : Value) (hb' : re_H), ex hb' (if l.1 = 6 ∧ l.2.1 = nm then b else xgd nm ot b) vb' → kp (fun _ => False) ha' hb' → hb'.1 ≤ ha'.1 + pts b → wp SC 644 (d + 1) q 104 [(0, .ref x), (1, .int (i32 nm)), (2, .int (i32 ot))] [vb', va', .long l.2.2, .int (i32 l.2.1), .int (i32 l.1), .ref h.1, .ref h.1] hb' Q := fun vb' hb' eb' kb' lb' => by
        have xb := xk_none kb'
        refine B644_104 (ex_R eb') (ex_R ea') (ex_R h6) ⟨_, xb _ _ (xa _ _ (xq _ _ h3)), rfl⟩ (c644 nm ot hn ho (ex_xk xb (ex_xk xa (ex_xk xq h6))) (by omega) (fun vc' hc' ec' kc' lc' => ret3 ?_))
        have xc := xk_none kc'
        have eh : re_hg hc' h.1 = some (9, [.int 0, .int 0, .long 0, .null, .null, .null, .int 0, .int 0, .int 0, .int 0, .int 0]) := kp_g kc' id (kp_g kb' id (kp_g ka' id hq_s))
        have exa := ex_xk xc (ex_xk xb ea')
        have exb := ex_xk xc eb'
        refine B644_113 (ex_R ec') (ex_R eb') (ex_R ea') eh rfl (c640 eh rfl h1 h2 (pt_d9 eh exa) (pt_d9 eh exb) (pt_d9 eh ec') (fun h' o => ret0 (B644_116 (K' _ _ ?_ ?_ ?_))))
        · exact ex_E.mpr ⟨⟨h1, h2⟩, _, _, _, _, rfl, o.2.1, ex_ob eh o exa, ex_ob eh o exb, ex_ob eh o ec'⟩
        · have k9 := kp_tr (kp_tr (kp_tr kq ka') kb') kc'
          exact ⟨by rw [o.1]; exact k9.1, fun y hy hz => by rw [o.2.2 y (by omega)]; exact k9.2 y hy hz⟩
        · rw [o.1]
          have : ha'.1 ≤ h.1 + 1 + pts a := la'
          omega
      refine B644_84 (ex_R ea') (fun g => ?_) (fun g => ?_)
      · have hz' := ib_0.mp g
        rw [hz] at hz'
        refine B644_95 (ex_R ea') (ex_R h5) ⟨_, xa _ _ (xq _ _ h3), rfl⟩ (c644 nm ot hn ho (ex_xk xa (ex_xk xq h5)) (by omega) (fun vb' hb' eb' kb' lb' => ret3 (last vb' hb' ?_ kb' lb')))
        rw [if_neg (of_decide_eq_false hz')]
        exact eb'
      · have : z = true := by cases z with
          | true => rfl
          | false => exact absurd rfl g
        rw [hz] at this
        refine B644_88 (ex_R ea') (ex_R h5) ⟨_, xa _ _ (xq _ _ h3), rfl⟩ (last vb ha' ?_ kp_rf (Nat.le_add_right _ _))
        rw [if_pos (of_decide_eq_true this)]
        exact ex_xk xa (ex_xk xq h5)
    refine B644_36 ⟨_, h3, rfl⟩ (fun g2 => B644_57 (go false ?_)) (fun g2 => B644_45 ⟨_, h3, rfl⟩ (fun g3 => B644_57 (go false ?_)) (fun g3 => B644_53 (go true ?_)))
    · exact (decide_eq_false (fun y => g2 (by rw [y.1]))).symm
    · exact (decide_eq_false (fun y => g3 (by rw [y.2]))).symm
    · exact (decide_eq_true ⟨(i3_eq (by omega) (by omega)).mp g2, (i3_eq (by omega) (by omega)).mp g3⟩).symm
end EX
