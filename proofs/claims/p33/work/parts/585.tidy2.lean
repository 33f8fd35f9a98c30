/-! Store: tidy. -/
theorem nodup_le : ∀ {U N : List Nat}, U.Nodup → (∀ x, x ∈ U → x ∈ N) → U.length ≤ N.length
  | [], N, _, _ => Nat.zero_le _
  | x :: r, N, hd, hs => by
    have hn := List.nodup_cons.mp hd
    have hx := hs x List.mem_cons_self
    have ih := nodup_le (U := r) (N := N.erase x) hn.2 (fun y hy => (List.mem_erase_of_ne (by intro z; rw [z] at hy; exact hn.1 hy)).mpr (hs y (List.mem_cons_of_mem _ hy)))
    rw [List.length_erase_of_mem hx] at ih
    have : 0 < N.length := List.length_pos_of_mem hx
    rw [List.length_cons]
    omega
def ptx (v : Value) (X : Nat → Prop) : Prop := v = .null ∨ ∃ y : Nat, v = .ref y ∧ X y
/-- where results' functions lie -/
def roots (h : re_H) (rb : Nat) (rf : Nat → List Value) : Prop := re_hg h rb = some (105, lst 24 (fun i => .ref (rb + 1 + 10 * i))) ∧ ∀ i, i < 24 → (∃ w, re_hg h (rb + 1 + 10 * i) = some (5, w) ∧ w[5]? = some (.ref (rb + 1 + 10 * i + 3))) ∧ re_hg h (rb + 1 + 10 * i + 3) = some (106, rf i) ∧ (rf i).length = 4
section TI
variable {SC : List Value} {d q : Nat} {Q : Nat → Value → re_H → Prop} {s rb : Nat} {N F : List Nat} {ho la : Nat} {h : re_H}
theorem c385 {rf : Nat → List Value} {X : Nat → Prop} (o : sto h s rb N F ho la) (hN : N.length < 1000000) (rt : roots h rb rf) (hrx : ∀ (i : Nat) (v : Value), i < 24 → v ∈ rf i → ptx v X) (hX : ∀ x, X x → x ∈ N ∧ ¬ x ∈ F ∧ ∀ w, re_hg h x = some (10, w) → ∀ v : Value, (w[3]? = some v ∨ w[4]? = some v) → ptx v X)
    (K1 : ho < la + 500 → Q 0 .null h)
    (K2 : ∀ (h' : re_H) (U : List Nat), sto h' s rb N (N.filter (fun x => !decide (x ∈ U))).reverse 0 (N.filter (fun x => decide (x ∈ U))).length → h'.1 = h.1 → (∀ x, x ∈ U → re_hg h' x = re_hg h x) → (∀ a, ¬ a = s → ¬ a ∈ N → re_hg h' a = re_hg h a) → (∀ x, x ∈ U → X x) → (∀ (i : Nat) (v : Value), i < 24 → v ∈ rf i → ptr v U) → (∀ x, x ∈ U → ∀ w, re_hg h x = some (10, w) → ∀ v : Value, (w[3]? = some v ∨ w[4]? = some v) → ptr v U) → Q 0 .null h') :
    wp SC 385 (d + 1) q 0 [(0, .ref s)] [] h Q := by
  have o0 := o
  obtain ⟨⟨vl, vf, e, cN, cF⟩, dN, dF, sub, cells, cnt, low⟩ := o
  have hs : ¬ s ∈ N := fun y => sto_ne o0 y e (by omega) rfl
  have sup : ∀ {U : List Nat} {v : Value}, ptr v U → ∀ {U' : List Nat}, (∀ x, x ∈ U → x ∈ U') → ptr v U' := fun p _ hu => p.elim Or.inl (fun ⟨y, h1, h2⟩ => Or.inr ⟨y, h1, hu y h2⟩)
  have xn : ∀ {v : Value}, ptx v X → v = .null ∨ ∃ y : Nat, v = .ref y ∧ y ∈ N := fun p => p.elim Or.inl (fun ⟨y, h1, h2⟩ => Or.inr ⟨y, h1, (hX y h2).1⟩)
  have nx7 : ∀ x, x ∈ N → ¬ x ∈ F → ∃ w, re_hg h x = some (10, w) ∧ w[7]? = some .null := fun x hx hf => by
    obtain ⟨c0, nm, nu, c3, c4, mb, nx, h1, h2, h3, h4, h5, h6⟩ := cells x hx
    exact ⟨_, h1, by rw [h6 hf]; rfl⟩
  have xnx : ∀ {v : Value}, ptx v X → ∀ (U : List Nat) (x : Nat), x ∈ N → v = .ref x → ¬ x ∈ U → ∃ w, re_hg h x = some (10, w) ∧ w[7]? = some .null := fun p U x hx hv _ => by
    rcases p with h1 | ⟨y, h1, h2⟩
    · rw [h1] at hv; cases hv
    · rw [h1] at hv; cases hv; exact nx7 _ hx (hX _ h2).2.1
  have ty : ∀ x, x ∈ N → ∀ w, re_hg h x = some (10, w) → ∀ (v : Value), (w[0]? = some v ∨ w[3]? = some v ∨ w[4]? = some v) → re_R v := fun x hx w hw v hv => by
    obtain ⟨c0, nm, nu, c3, c4, mb, nx, h1, h2, h3, h4, -⟩ := cells x hx
    rw [h1] at hw
    cases hw
    rcases hv with hv | hv | hv
    · cases (show c0 = v by simpa using hv); exact h2
    · cases (show c3 = v by simpa using hv); exact h3
    · cases (show c4 = v by simpa using hv); exact h4
  refine B385_0 ⟨_, e, rfl⟩ ⟨_, e, rfl⟩ (fun g => B385_16 ?_) (fun g => B385_15 (K1 ?_))
  rotate_left
  · rw [i3_add] at g
    exact (i3_lt (by omega) (by omega)).mp g
  -- cells that are no nodes
  have outm : ∀ {h1 : re_H} {U P : List Nat} (m : mks h h1 s rb N U P vl vf ho la) {a t : Nat} {w : List Value}, re_hg h a = some (t, w) → ¬ t = 10 → ¬ a = s → re_hg h1 a = some (t, w) := by
    intro h1 U P m a t w e1 ht ha
    rw [m.2.2.2.2.2.2.2 a ha (fun y => sto_ne o0 y e1 ht rfl)]
    exact e1
  have ns5 : ∀ {a t : Nat} {w : List Value}, re_hg h a = some (t, w) → ¬ t = 6 → ¬ a = s := by
    intro a t w e1 ht y
    subst y
    rw [e] at e1
    cases e1
    exact ht rfl
  -- the worklist
  have work : ∀ (k t : Nat) (h1 : re_H) (U P : List Nat), k + U.length = N.length + P.length → t + k ≤ N.length + N.length → mks h h1 s rb N U P vl vf ho la → (∀ x, x ∈ U → X x) → (∀ (i : Nat) (v : Value), i < 24 → v ∈ rf i → ptr v U) → (∀ x, x ∈ U → ¬ x ∈ P → ∀ w, re_hg h x = some (10, w) → ∀ v : Value, (w[3]? = some v ∨ w[4]? = some v) → ptr v U) → wp SC 385 (d + 1) q 69 [(0, .ref s), (1, .int (i32 t))] [] h1 Q := by
    intro k
    induction k with
    | zero =>
      intro t h1 U P hk ht m ux ur uc
      have := nodup_le m.2.2.1 m.2.2.2.2.2.1
      have hP : P = [] := List.eq_nil_of_length_eq_zero (by omega)
      subst hP
      obtain ⟨-, ⟨vp, e1, cP⟩, -⟩ := id m
      cases (show vp = .null from cP)
      have fin : wp SC 385 (d + 1) q 122 [(0, .ref s)] [] h1 Q := B385_122 e1 rfl (c387 m cN dN hs ty (fun x hx => nx7 x (hX x (ux x hx)).1 (hX x (ux x hx)).2.1) low (fun h' o' s' k1 k2 => ret0 (B385_126 (K2 h' U o' s' k1 k2 ux ur (fun x hx => uc x hx (fun y => by cases y))))))
      refine B385_69 (fun g => fin) (fun g => B385_75 (Or.inl rfl) ⟨_, e1, rfl⟩ (fun _ => fin) (fun b hb => by cases hb))
    | succ k ih =>
      intro t h1 U P hk ht m ux ur uc
      have m0 := m
      obtain ⟨hsz, ⟨vp, e1, cP⟩, dU, dP, pu, un, mc, oth⟩ := m
      have lt := nodup_le dU un
      cases P with
      | nil =>
        cases (show vp = .null from cP)
        have fin : wp SC 385 (d + 1) q 122 [(0, .ref s)] [] h1 Q := B385_122 e1 rfl (c387 m0 cN dN hs ty (fun x hx => nx7 x (hX x (ux x hx)).1 (hX x (ux x hx)).2.1) low (fun h' o' s' k1 k2 => ret0 (B385_126 (K2 h' U o' s' k1 k2 ux ur (fun x hx => uc x hx (fun y => by cases y))))))
        exact B385_69 (fun g => fin) (fun g => B385_75 (Or.inl rfl) ⟨_, e1, rfl⟩ (fun _ => fin) (fun b hb => by cases hb))
      | cons y P =>
        obtain ⟨rfl, w, u, f1, f2, f3⟩ := cP
        have hyU := pu y List.mem_cons_self
        have hyN := un y hyU
        have hys : ¬ y = s := fun z => hs (z ▸ hyN)
        obtain ⟨c0, nm, nu, c3, c4, mb, nx, nx', g1, g2, g3⟩ := mc y hyN
        rw [f1] at g2
        cases g2
        have hu : nx' = u := by simpa using f2
        subst hu
        obtain ⟨w7, w71, w72⟩ := nx7 y hyN (hX y (ux y hyU)).2.1
        rw [g1] at w71
        cases w71
        have hnx : nx = .null := by simpa using w72
        subst hnx
        have hpc := (hX y (ux y hyU)).2.2 _ g1
        have p3 := hpc c3 (Or.inl rfl)
        have p4 := hpc c4 (Or.inr rfl)
        rw [List.length_cons] at hk
        refine B385_69 (fun g => absurd ((i3_lt (b := 10000000) (by omega) (by omega)).mpr (by omega)) g) (fun _ => ?_)
        refine B385_75 (Or.inr ⟨y, rfl⟩) ⟨_, e1, rfl⟩ (fun z => by cases z) (fun b _ => ?_)
        refine B385_82 (Or.inr ⟨y, rfl⟩) ⟨_, e1, rfl⟩ rfl (chn_R f3) ⟨_, f1, rfl⟩ e1 (by simp) ?_
        have t0 : tw h1 s y [.ref rb, vl, vf, .ref y, .int (i32 ho), .int (i32 la)] [c0, .int nm, .long nu, c3, c4, .int (ib (decide (y ∈ U))), mb, nx'] h1 := ⟨rfl, e1, f1, fun _ _ _ => rfl⟩
        have t1 := tw_s t0 3 nx'
        refine B385_95 (Or.inr ⟨y, rfl⟩) rfl t1.2.2.1 (by simp) ?_
        have t2 := tw_x t1 7 .null
        have dP' := List.nodup_cons.mp dP
        have m2 : mks h (re_hw (re_hw h1 s (6, ([.ref rb, vl, vf, .ref y, .int (i32 ho), .int (i32 la)] : List Value).set 3 nx')) y (10, ([c0, .int nm, .long nu, c3, c4, .int (ib (decide (y ∈ U))), mb, nx'] : List Value).set 7 .null)) s rb N U P vl vf ho la := by
          refine ⟨t2.1.trans hsz, ⟨nx', t2.2.1, chn_cong (fun z hz w hw => ⟨w, ?_, rfl⟩) f3⟩, dU, dP'.2, fun x hx => pu x (List.mem_cons_of_mem _ hx), un, fun x hx => ?_, fun a h1 h2 => ?_⟩
          · rw [t2.2.2.2 z (fun y' => hs (y' ▸ un z (pu z (List.mem_cons_of_mem _ hz)))) (fun y' => dP'.1 (y' ▸ hz))]; exact hw
          · rcases Nat.decEq x y with hne | rfl
            · obtain ⟨k0, k1, k2, k3, k4, k5, k6, k7, q1, q2, q3⟩ := mc x hx
              exact ⟨k0, k1, k2, k3, k4, k5, k6, k7, q1, by rw [t2.2.2.2 x (fun z => hs (z ▸ hx)) hne]; exact q2, fun z => q3 (fun z2 => (List.mem_cons.mp z2).elim hne z)⟩
            · exact ⟨c0, nm, nu, c3, c4, mb, .null, .null, g1, t2.2.2.1, fun _ => rfl⟩
          · rw [t2.2.2.2 a h1 (fun z => h2 (z ▸ hyN))]; exact oth a h1 h2
        refine B385_100 (Or.inr ⟨y, rfl⟩) rfl (p3.elim Or.inl (fun ⟨z, z1, _⟩ => Or.inr ⟨z, z1⟩)) ⟨_, t2.2.2.1, rfl⟩ t2.2.1 rfl (c386 m2 hs (xn p3) (xnx p3 U) (fun h3 U3 P3 m3 a1 a2 a3 a4 a5 a6 a7 => ret0 ?_))
        obtain ⟨-, ⟨vp3, e3, -⟩, -, -, -, -, mc3, -⟩ := id m3
        obtain ⟨k0, k1, k2, k3, k4, k5, k6, k7, q1, q2, q3⟩ := mc3 y hyN
        rw [g1] at q1
        cases q1
        refine B385_108 (Or.inr ⟨y, rfl⟩) rfl (p4.elim Or.inl (fun ⟨z, z1, _⟩ => Or.inr ⟨z, z1⟩)) ⟨_, q2, rfl⟩ e3 rfl (c386 m3 hs (xn p4) (xnx p4 U3) (fun h4 U4 P4 m4 b1 b2 b3 b4 b5 b6 b7 => ret0 (B385_116 ?_)))
        rw [i3_add]
        refine ih (t + 1) h4 U4 P4 (by omega) (by omega) m4 (fun x hx => ?_) (fun i v hi hv => sup (ur i v hi hv) (fun x hx => b1 x (a1 x hx))) (fun x hx hxP w hw v hv => ?_)
        · rcases b3 x hx with hx3 | hv4
          · rcases a3 x hx3 with hx2 | hv3
            · exact ux x hx2
            · rcases p3 with z | ⟨z, z1, z2⟩
              · rw [z] at hv3; cases hv3
              · rw [z1] at hv3; cases hv3; exact z2
          · rcases p4 with z | ⟨z, z1, z2⟩
            · rw [z] at hv4; cases hv4
            · rw [z1] at hv4; cases hv4; exact z2
        · have hx3 : x ∈ U3 := (b6 x hx).elim id (fun z => absurd z hxP)
          have hxP3 : ¬ x ∈ P3 := fun z => hxP (b4 x z)
          have hxU : x ∈ U := (a6 x hx3).elim id (fun z => absurd z hxP3)
          have hxP2 : ¬ x ∈ P := fun z => hxP3 (a4 x z)
          rcases Nat.decEq x y with hne | rfl
          · exact sup (uc x hxU (fun z => (List.mem_cons.mp z).elim hne hxP2) w hw v hv) (fun z hz => b1 z (a1 z hz))
          · rw [g1] at hw
            cases hw
            rcases hv with hv | hv
            · cases (show c3 = v by simpa using hv)
              exact sup a2 b1
            · cases (show c4 = v by simpa using hv)
              exact b2
  -- the roots
  have outer : ∀ (k i : Nat), i + k = 24 → ∀ (h1 : re_H) (U P : List Nat), U.length = P.length → mks h h1 s rb N U P vl vf ho la → (∀ x, x ∈ U → X x) → (∀ (j : Nat) (v : Value), j < i → v ∈ rf j → ptr v U) → (∀ x, x ∈ U → x ∈ P) → wp SC 385 (d + 1) q 18 [(0, .ref s), (1, .int (i32 i))] [] h1 Q := by
    intro k
    induction k with
    | zero =>
      intro i hi h1 U P hl m ux ur up
      cases (show i = 24 by omega)
      obtain ⟨-, ⟨vp, e1, cP⟩, -⟩ := id m
      have lt := nodup_le m.2.2.1 m.2.2.2.2.2.1
      refine B385_18 ⟨_, e1, rfl⟩ (outm m rt.1 (by omega) (ns5 rt.1 (by omega))) (fun _ => B385_67 ?_) (fun g => ?_)
      · exact work N.length 0 h1 U P (by omega) (by omega) m ux (fun j v hj hv => ur j v hj hv) (fun x hx hp => absurd (up x hx) hp)
      · rw [lst_len] at g
        exact absurd ((i3_lt (by omega) (by omega)).mp g) (by omega)
    | succ k ih =>
      intro i hi h1 U P hl m ux ur up
      obtain ⟨-, ⟨vp, e1, cP⟩, -⟩ := id m
      obtain ⟨⟨w5, hw5, hw5'⟩, hr1, hr2⟩ := rt.2 i (by omega)
      refine B385_18 ⟨_, e1, rfl⟩ (outm m rt.1 (by omega) (ns5 rt.1 (by omega))) (fun g => ?_) (fun _ => ?_)
      · rw [lst_len] at g
        exact absurd ((i3_lt (by omega) (by omega)).mpr (by omega)) g
      refine B385_27 ⟨_, e1, rfl⟩ ⟨_, i, outm m rt.1 (by omega) (ns5 rt.1 (by omega)), rfl, by omega, lst_get _ (by omega)⟩ ?_
      have inner : ∀ (k2 j : Nat), j + k2 = 4 → ∀ (h2 : re_H) (U2 P2 : List Nat), U2.length = P2.length → mks h h2 s rb N U2 P2 vl vf ho la → (∀ x, x ∈ U2 → X x) → (∀ (j : Nat) (v : Value), j < i → v ∈ rf j → ptr v U2) → (∀ x, x ∈ U2 → x ∈ P2) → (∀ (j' : Nat) (v : Value), j' < j → (rf i)[j']? = some v → ptr v U2) → wp SC 385 (d + 1) q 36 [(0, .ref s), (1, .int (i32 i)), (2, .ref (rb + 1 + 10 * i)), (3, .int (i32 j))] [] h2 Q := by
        intro k2
        induction k2 with
        | zero =>
          intro j hj h2 U2 P2 hl2 m2 ux2 ur2 up2 uj
          cases (show j = 4 by omega)
          refine B385_36 (B385_40 (fun _ => B385_61 ?_) (fun g => absurd ((i3_lt (by omega) (by omega)).mp g) (by omega)))
          rw [i3_add]
          refine ih (i + 1) (by omega) h2 U2 P2 hl2 m2 ux2 (fun j v hj hv => ?_) up2
          rcases Nat.lt_or_ge j i with h9 | h9
          · exact ur2 j v h9 hv
          · cases (show j = i by omega)
            obtain ⟨j', hj'⟩ := List.getElem?_of_mem hv
            exact uj j' v (by have := (List.getElem?_eq_some_iff.mp hj').1; omega) hj'
        | succ k2 ih2 =>
          intro j hj h2 U2 P2 hl2 m2 ux2 ur2 up2 uj
          refine B385_36 (B385_40 (fun g => absurd ((i3_lt (by omega) (by omega)).mpr (by omega)) g) (fun _ => ?_))
          obtain ⟨v, hv⟩ := getl (C := rf i) (i := j) (by omega)
          have pv := hrx i v (by omega) (List.mem_of_getElem? hv)
          obtain ⟨-, ⟨vp2, e2, -⟩, -⟩ := id m2
          refine B385_45 ⟨_, outm m2 hw5 (by omega) (ns5 hw5 (by omega)), hw5'⟩ (pv.elim Or.inl (fun ⟨z, z1, _⟩ => Or.inr ⟨z, z1⟩)) ⟨_, j, outm m2 hr1 (by omega) (ns5 hr1 (by omega)), rfl, by omega, hv⟩ e2 rfl (c386 m2 hs (xn pv) (xnx pv U2) (fun h3 U3 P3 m3 a1 a2 a3 a4 a5 a6 a7 => ret0 (B385_55 ?_)))
          rw [i3_add]
          refine ih2 (j + 1) (by omega) h3 U3 P3 (by omega) m3 (fun x hx => ?_) (fun j' v' h1 h2 => sup (ur2 j' v' h1 h2) a1) (fun x hx => ?_) (fun j' v' h1 h2 => ?_)
          · rcases a3 x hx with z | z
            · exact ux2 x z
            · rcases pv with z0 | ⟨z0, z1, z2⟩
              · rw [z0] at z; cases z
              · rw [z1] at z; cases z; exact z2
          · exact (a6 x hx).elim (fun z => a4 x (up2 x z)) id
          · rcases Nat.lt_or_ge j' j with h9 | h9
            · exact sup (uj j' v' h9 h2) a1
            · cases (show j' = j by omega)
              rw [hv] at h2
              cases h2
              exact a2
      exact inner 4 0 rfl h1 U P hl m ux ur up (fun j' v h1 h2 => by omega)
  refine outer 24 0 rfl h [] [] rfl ⟨rfl, ⟨.null, e, rfl⟩, List.nodup_nil, List.nodup_nil, fun x hx => hx, fun x hx => (by cases hx), fun x hx => ?_, fun _ _ _ => rfl⟩ (fun x hx => (by cases hx)) (fun j v hj hv => by omega) (fun x hx => hx)
  obtain ⟨c0, nm, nu, c3, c4, mb, nx, h1, -⟩ := cells x hx
  exact ⟨c0, nm, nu, c3, c4, mb, nx, nx, h1, by simpa [ib] using h1, fun _ => rfl⟩
end TI
