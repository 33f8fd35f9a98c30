/-! Cellbrook: what is refused; the pile. -/
def ph (h : re_H) (b : Nat) (P : List Tr) (md o bc : Nat) : Prop := re_hg h b = some (0, hdw b P.length md o bc) ∧ pil h b P
def inJ (b a : Nat) : Prop := a = b ∨ a = b + 1
def psum (l : List Tr) : Nat := (l.map pts).sum
section PI
variable {SC : List Value} {d q : Nat} {h : re_H} {Q : Nat → Value → re_H → Prop} {b md o bc ht : Nat} {P : List Tr} {V : Vr}
theorem i3_ge {n k : Nat} (hn : n < 2147483648) (hk : k < 2147483648) : ¬ i32 n < i32 k ↔ k ≤ n := by
  rw [i3_lt hn hk]; omega
theorem c5 {n : Nat} (hn : n < 16) (K : Q 0 .null h) : wp SC 5 d q 0 [(0, .ref b), (1, .int (i32 n))] [] h Q := by
  refine wp_weak (lv' := [(1, .int (i32 n))]) (re_sb_at rfl (re_sb_nil _)) ?_
  exact B5_0 (fun g => absurd g (i3_neg (by omega))) (fun _ => B5_4 (fun _ => B5_21 K) (fun g => absurd ((i3_lt (by omega) (by omega)).mpr hn) g))
theorem c5x {x : Int32} (hx : x < 0 ∨ ¬ x < i32 16) (hq : 0 < q) (K : Q 6 .null h) : wp SC 5 d q 0 [(0, .ref b), (1, .int x)] [] h Q := by
  refine wp_weak (lv' := [(1, .int x)]) (re_sb_at rfl (re_sb_nil _)) ?_
  exact B5_0 (fun _ => B5_10 hq K) (fun g => B5_4 (fun g2 => hx.elim (fun y => absurd y g) (fun y => absurd g2 y)) (fun _ => B5_10 hq K))
theorem c7 {n : Nat} (hn : n < 4) (K : Q 0 .null h) : wp SC 7 d q 0 [(0, .ref b), (1, .int (i32 n))] [] h Q := by
  refine wp_weak (lv' := [(1, .int (i32 n))]) (re_sb_at rfl (re_sb_nil _)) ?_
  exact B7_0 (fun g => absurd g (i3_neg (by omega))) (fun _ => B7_4 (fun _ => B7_20 K) (fun g => absurd ((i3_lt (by omega) (by omega)).mpr hn) g))
theorem c7x {x : Int32} (hx : x < 0 ∨ ¬ x < i32 4) (hq : 0 < q) (K : Q 6 .null h) : wp SC 7 d q 0 [(0, .ref b), (1, .int x)] [] h Q := by
  refine wp_weak (lv' := [(1, .int x)]) (re_sb_at rfl (re_sb_nil _)) ?_
  exact B7_0 (fun _ => B7_9 hq K) (fun g => B7_4 (fun g2 => hx.elim (fun y => absurd y g) (fun y => absurd g2 y)) (fun _ => B7_9 hq K))
theorem c19 {c : Nat} (hc : c < 12) (hv : (V c).1 = true) (z : re_hg h b = some (0, hdw b ht md o bc)) (v : vr h (b + 2) V) (K : Q 0 .null h) : wp SC 19 d q 0 [(0, .ref b), (1, .int (i32 c))] [] h Q := by
  have ar : nb_ar h (b + 2 + 1) 102 (i32 c) (.int (ib (V c).1)) := ⟨_, c, v.2.1, rfl, by omega, lst_get (fun i => .int (ib (V i).1)) hc⟩
  refine B19_0 (fun g => absurd g (i3_neg (by omega))) (fun _ => B19_4 (fun g => absurd ((i3_lt (by omega) (by omega)).mpr hc) g) (fun _ => B19_10 ⟨_, z, rfl⟩ ⟨_, v.1, rfl⟩ ar (fun _ => B19_32 K) (fun g => ?_)))
  rw [hv] at g
  exact absurd g (by decide)
theorem c19x {x : Int32} (hx : x < 0 ∨ ¬ x < i32 12 ∨ ∃ c, c < 12 ∧ x = i32 c ∧ (V c).1 = false) (z : re_hg h b = some (0, hdw b ht md o bc)) (v : vr h (b + 2) V) (hq : 0 < q) (K : Q 6 .null h) : wp SC 19 d q 0 [(0, .ref b), (1, .int x)] [] h Q := by
  refine B19_0 (fun _ => B19_22 hq K) (fun g => B19_4 (fun _ => B19_22 hq K) (fun g2 => ?_))
  rcases hx with y | y | ⟨c, hc, rfl, hv⟩
  · exact absurd y g
  · exact absurd g2 y
  · have ar : nb_ar h (b + 2 + 1) 102 (i32 c) (.int (ib (V c).1)) := ⟨_, c, v.2.1, rfl, by omega, lst_get (fun i => .int (ib (V i).1)) hc⟩
    refine B19_10 ⟨_, z, rfl⟩ ⟨_, v.1, rfl⟩ ar (fun g3 => ?_) (fun _ => B19_22 hq K)
    rw [hv] at g3
    exact absurd rfl g3
theorem c2 (hp : ht < 20) (z : re_hg h b = some (0, hdw b ht md o bc)) (K : Q 0 .null h) : wp SC 2 d q 0 [(0, .ref b)] [] h Q :=
  B2_0 ⟨_, z, rfl⟩ (fun _ => B2_20 K) (fun g => absurd ((i3_lt (by omega) (by omega)).mpr hp) g)
theorem c2x (hp : ht = 20) (z : re_hg h b = some (0, hdw b ht md o bc)) (hq : 0 < q) (K : Q 4 .null h) : wp SC 2 d q 0 [(0, .ref b)] [] h Q := by
  subst hp
  exact B2_0 ⟨_, z, rfl⟩ (fun g => absurd ((i3_lt (by omega) (by omega)).mp g) (by omega)) (fun _ => B2_9 hq K)
theorem psum_le {l : List Tr} (hl : ∀ e, e ∈ l → pts e ≤ 30) : psum l ≤ 30 * l.length := by
  induction l with
  | nil => exact Nat.le_refl _
  | cons e r ih =>
    have := ih (fun e' y => hl e' (List.mem_cons_of_mem _ y))
    have h1 := hl e (List.mem_cons_self ..)
    show pts e + psum r ≤ 30 * (r.length + 1)
    omega
theorem psum_app (l l' : List Tr) : psum (l ++ l') = psum l + psum l' := by
  unfold psum
  rw [List.map_append, List.sum_append]
theorem c9 {w : Nat} (hw : w ≤ 3) (z : ph h b P md o bc) (hP : ∀ e, e ∈ P → pts e ≤ 30) (Kx : (P.length < w ∨ 30 < 1 + psum (P.drop (P.length - w))) → 0 < q ∧ Q 4 .null h) (K : ¬ (P.length < w ∨ 30 < 1 + psum (P.drop (P.length - w))) → Q 0 .null h) : wp SC 9 d q 0 [(0, .ref b), (1, .int (i32 w))] [] h Q := by
  obtain ⟨z1, ps, p1, p2, p3, p4, p5⟩ := z
  have hd : nb_fd h b 0 1 (.int (i32 P.length)) := ⟨_, z1, rfl⟩
  have hpl : nb_fd h b 0 0 (.ref (b + 1)) := ⟨_, z1, rfl⟩
  refine B9_0 hd (fun g => ?_) (fun g => B9_8 (Kx (Or.inl ((i3_lt (by omega) (by omega)).mp g))).1 (Kx (Or.inl ((i3_lt (by omega) (by omega)).mp g))).2)
  have hwl : w ≤ P.length := (i3_ge (by omega) (by omega)).mp g
  refine B9_19 hd ?_
  rw [i3_sub hwl]
  obtain ⟨D, hD⟩ : ∃ D, D = P.drop (P.length - w) := ⟨_, rfl⟩
  rw [← hD] at Kx K
  have hDl : D.length = w := by rw [hD, List.length_drop]; omega
  have hDm : ∀ e, e ∈ D → pts e ≤ 30 := fun e y => hP e (List.mem_of_mem_drop (by rw [← hD]; exact y))
  have loop : ∀ (k i : Nat), i + k = w → wp SC 9 d q 28 [(0, .ref b), (2, .int (i32 (1 + psum (D.take i)))), (3, .int (i32 (P.length - w + i)))] [] h Q := by
    intro k
    induction k with
    | zero =>
      intro i hi
      have hs := psum_le hDm
      have e1 : D.take i = D := List.take_of_length_le (by omega)
      rw [e1]
      refine B9_28 hd (fun _ => B9_67 (fun g2 => B9_84 (K (fun y => ?_))) (fun g2 => ?_)) (fun g2 => absurd ((i3_lt (by omega) (by omega)).mp g2) (by omega))
      · rcases y with y | y
        · omega
        · exact g2 ((i3_lt (by omega) (by omega)).mpr y)
      · have := Kx (Or.inr ((i3_lt (by omega) (by omega)).mp g2))
        exact B9_73 this.1 this.2
    | succ k ih =>
      intro i hi
      obtain ⟨e, he⟩ : ∃ e, D[i]? = some e := ⟨_, List.getElem?_eq_getElem (by omega)⟩
      have heP : P[P.length - w + i]? = some e := by rw [hD, List.getElem?_drop] at he; exact he
      obtain ⟨x, x1, x2⟩ := p4 _ _ heP
      have har : nb_ar h (b + 1) 103 (i32 (P.length - w + i)) (.ref x) := ⟨_, _, p1, rfl, by omega, x1⟩
      have h30 := hDm e (List.mem_of_getElem? he)
      have next : 1 + psum (D.take i) + pts e = 1 + psum (D.take (i + 1)) := by
        rw [List.take_add_one, he, psum_app]
        show _ = 1 + (psum (D.take i) + (pts e + 0))
        omega
      refine B9_28 hd (fun g2 => absurd ((i3_lt (by omega) (by omega)).mpr (by omega)) g2) (fun _ => B9_36 hpl (Or.inr ⟨x, rfl⟩) har (fun y => by cases y) (fun b5 hb => B9_50 hpl (Or.inr ⟨x, rfl⟩) har rfl (ex_fd x2).1 (B9_59 ?_)))
      rw [i3_add, i3_add, next, Nat.add_assoc]
      exact ih (i + 1) (by omega)
  have := loop w 0 (Nat.zero_add _)
  rw [List.take_zero] at this
  exact this
theorem getEnd {α : Type} (l : List α) (e : α) : (l ++ [e])[l.length]? = some e := by simp
/-- the top is taken -/
theorem c10 {e : Tr} (z : ph h b (P ++ [e]) md o bc) (K : ∀ h' x, ph h' b P md o bc → ex h' e (.ref x) → mo (inJ b) 0 h h' → Q 3 (.ref x) h') : wp SC 10 d q 0 [(0, .ref b)] [] h Q := by
  obtain ⟨z1, ps, p1, p2, p3, p4, p5⟩ := z
  have hl : (P ++ [e]).length = P.length + 1 := by rw [List.length_append]; rfl
  rw [hl] at z1 p3 p5
  refine B10_0 ⟨_, z1, rfl⟩ (fun _ => ?_) (fun g => absurd ((i3_zero (by omega)).mp g) (by omega))
  refine B10_9 ⟨_, z1, rfl⟩ z1 (by show 1 < 11; omega) ?_
  obtain ⟨h1, e1⟩ : ∃ h1, h1 = re_hw h b (0, (hdw b (P.length + 1) md o bc).set 1 (.int (i32 (P.length + 1) - i32 1))) := ⟨_, rfl⟩
  rw [← e1]
  have hb := hg_lt z1
  have s1 : re_hg h1 b = some (0, hdw b P.length md o bc) := by
    rw [e1, i3_sub (by omega), Nat.add_sub_cancel]
    exact hw_s hb
  have q1 : re_hg h1 (b + 1) = some (103, ps) := by rw [e1, hw_n (by omega)]; exact p1
  have m1 : mo (inJ b) 0 h h1 := by rw [e1]; exact mo_hw z1 (by omega) (Or.inl rfl)
  obtain ⟨x, x1, x2⟩ := p4 P.length e (getEnd P e)
  refine B10_19 ⟨_, s1, rfl⟩ ⟨_, s1, rfl⟩ (Or.inr ⟨x, rfl⟩) ⟨_, P.length, q1, rfl, by omega, x1⟩ ⟨_, s1, rfl⟩ ⟨_, s1, rfl⟩ q1 rfl (by omega) (by omega) (B10_39 (Or.inr ⟨x, rfl⟩) ?_)
  obtain ⟨h2, e2⟩ : ∃ h2, h2 = re_hw h1 (b + 1) (103, ps.set P.length .null) := ⟨_, rfl⟩
  rw [← e2]
  have m2 : mo (inJ b) 0 h1 h2 := by rw [e2]; exact mo_hw q1 (by omega) (Or.inr rfl)
  have m3 : mo (inJ b) 0 h h2 := mo_tr m1 m2 (Nat.le_refl _)
  refine K h2 x ⟨?_, ps.set P.length .null, ?_, by rw [List.length_set]; exact p2, by omega, fun i e' hi => ?_, fun i h3 h4 => ?_⟩ (ex_xk m3.2.1 x2) m3
  · rw [e2, hw_n (by omega)]; exact s1
  · rw [e2]; exact hw_s (hg_lt q1)
  · have hlt : i < P.length := (List.getElem?_eq_some_iff.mp hi).1
    obtain ⟨x', y1, y2⟩ := p4 i e' (by rw [List.getElem?_append_left hlt]; exact hi)
    exact ⟨x', by rw [List.getElem?_set_ne (by omega)]; exact y1, ex_xk m3.2.1 y2⟩
  · rcases Nat.eq_or_lt_of_le h3 with g | g
    · rw [← g, List.getElem?_set_self (by omega)]
    · rw [List.getElem?_set_ne (by omega)]; exact p5 i (by omega) h4
/-- an expr is put -/
theorem c3 {e : Tr} {x : Nat} (hP : P.length < 20) (z : ph h b P md o bc) (ze : ex h e (.ref x)) (K : ∀ h', ph h' b (P ++ [e]) md o bc → mo (inJ b) 0 h h' → Q 1 (.int (i32 (P.length + 1))) h') : wp SC 3 d q 0 [(0, .ref b), (1, .ref x)] [] h Q := by
  obtain ⟨z1, ps, p1, p2, p3, p4, p5⟩ := z
  refine B3_0 (Or.inr ⟨x, rfl⟩) ⟨_, z1, rfl⟩ (fun g => absurd ((i3_lt (by omega) (by omega)).mpr hP) g) (fun _ => ?_)
  refine B3_9 (Or.inr ⟨x, rfl⟩) ⟨_, z1, rfl⟩ ⟨_, z1, rfl⟩ z1 (by show 1 < 11; omega) ?_
  rw [i3_add]
  obtain ⟨h1, e1⟩ : ∃ h1, h1 = re_hw h b (0, (hdw b P.length md o bc).set 1 (.int (i32 (P.length + 1)))) := ⟨_, rfl⟩
  rw [← e1]
  have hb := hg_lt z1
  have s1 : re_hg h1 b = some (0, hdw b (P.length + 1) md o bc) := by rw [e1]; exact hw_s hb
  have q1 : re_hg h1 (b + 1) = some (103, ps) := by rw [e1, hw_n (by omega)]; exact p1
  have m1 : mo (inJ b) 0 h h1 := by rw [e1]; exact mo_hw z1 (by omega) (Or.inl rfl)
  have ze1 := ex_xk m1.2.1 ze
  obtain ⟨ws, hws⟩ := ex_9 ze1
  refine B3_24 (Or.inr ⟨x, rfl⟩) q1 rfl (by omega) (by omega) (Or.inr ⟨x, ws, rfl, hws⟩) ?_
  obtain ⟨h2, e2⟩ : ∃ h2, h2 = re_hw h1 (b + 1) (103, ps.set P.length (.ref x)) := ⟨_, rfl⟩
  rw [← e2]
  have m2 : mo (inJ b) 0 h1 h2 := by rw [e2]; exact mo_hw q1 (by omega) (Or.inr rfl)
  have m3 : mo (inJ b) 0 h h2 := mo_tr m1 m2 (Nat.le_refl _)
  have s2 : re_hg h2 b = some (0, hdw b (P.length + 1) md o bc) := by rw [e2, hw_n (by omega)]; exact s1
  have hl : (P ++ [e]).length = P.length + 1 := by rw [List.length_append]; rfl
  refine B3_26 ⟨_, s2, rfl⟩ (K h2 ⟨by rw [hl]; exact s2, ps.set P.length (.ref x), ?_, by rw [List.length_set]; exact p2, by omega, fun i e' hi => ?_, fun i h3 h4 => ?_⟩ m3)
  · rw [e2]; exact hw_s (hg_lt q1)
  · rcases Nat.lt_or_ge i P.length with g | g
    · rw [List.getElem?_append_left g] at hi
      obtain ⟨x', y1, y2⟩ := p4 i e' hi
      exact ⟨x', by rw [List.getElem?_set_ne (by omega)]; exact y1, ex_xk m3.2.1 y2⟩
    · have hlt := (List.getElem?_eq_some_iff.mp hi).1
      cases (show i = P.length by omega)
      rw [getEnd] at hi
      cases hi
      exact ⟨x, List.getElem?_set_self (by omega), ex_xk m3.2.1 ze⟩
  · rw [hl] at h3
    rw [List.getElem?_set_ne (by omega)]; exact p5 i (by omega) h4
/-- a new expr -/
theorem nwE {a0 s w : Nat} {n : Int64} {a c e : Tr} {va vc ve : Value} (hd : re_hg h a0 = some (9, nb_d9)) (hs : s < 9) (hw : w < 16) (ha : ex h a va) (hc : ex h c vc) (he : ex h e ve) (K : ∀ h', ex h' (tE s w n a c e) (.ref a0) → h'.1 = h.1 → (∀ x, ¬ x = a0 → re_hg h' x = re_hg h x) → (∀ (e' : Tr) (v' : Value), ex h e' v' → ex h' e' v') → Q 0 .null h') : wp SC 640 d q 0 [(0, .ref a0), (1, .int (i32 s)), (2, .int (i32 w)), (3, .long n), (5, va), (6, vc), (7, ve)] [] h Q :=
  c640 hd rfl hs hw (pt_d9 hd ha) (pt_d9 hd hc) (pt_d9 hd he) (fun h' o => K h' (ex_E.mpr ⟨⟨hs, hw⟩, a0, va, vc, ve, rfl, o.2.1, ex_ob hd o ha, ex_ob hd o hc, ex_ob hd o he⟩) o.1 o.2.2 (fun e' v' y => ex_ob hd o y))
end PI
section PO
variable {SC : List Value} {d q : Nat} {h : re_H} {Q : Nat → Value → re_H → Prop} {b ff W : Nat} {A : Nb} {N : List Nat}
theorem NB_ph (z : NB h b A N ff W) : ph h b (nP A) (nM A) (nO A) (nB A).length := ⟨z.1, z.2.1⟩
theorem NB_vr (z : NB h b A N ff W) : vr h (b + 2) (nV A) := (nbx_bf z.2.2.2.1).1.1
theorem NB_lk (z : NB h b A N ff W) : lk h (b + 41) (b + 2) (nV A) := (nbx_bf z.2.2.2.1).1.2.1
theorem NB_pt (z : NB h b A N ff W) : ∀ e, e ∈ nP A → pts e ≤ 30 := fun e y => (z.2.2.2.2.2.2.2.2.2.2.1 e y).2
/-- the pile of a notebook is another one -/
theorem NB_pile {h' : re_H} {k : Nat} {P' : List Tr} {S : Nat → Prop} (z : NB h b A N ff W) (p : ph h' b P' (nM A) (nO A) (nB A).length) (m : kp S h h') (hS : ∀ a, a < h.1 → S a → inH b a ∧ ¬ a = b + 300) (hk : h'.1 ≤ h.1 + k) (hP : ∀ e, e ∈ P' → inps e < 16 ∧ pts e ≤ 30) : NB h' b (P', A.2) N ff W ∧ ofr b k h N h' N := by
  obtain ⟨z1, z2, z3, z4, z5, z6, z7, z8, z9, z10, z11, z12⟩ := z
  obtain ⟨ps, p1, -⟩ := id z2
  have kx : xk h h' := xk_kp m (fun a y w e => by
    rcases (hS a (hg_lt e) y).1 with g | g | g
    · rw [g, z1] at e; cases e
    · rw [g, p1] at e; cases e
    · exact (hS a (hg_lt e) y).2 g)
  have m' : mo (inH b) k h h' := ⟨kp_mono m (fun a h1 h2 => (hS a h1 h2).1), kx, hk⟩
  refine ⟨⟨p.1, p.2, brh_fr (m.2 _ ?_ (fun y => (hS _ ?_ y).2 rfl)) (fun a t w h1 h2 _ => m.2 a (hg_lt h2) (fun y => ?_)) kx z3, nbx_h z4 m', z5, z6, Nat.le_trans z7 m.1, z8, z9, z10, hP, z12⟩, ofr_mo m' (fun a y => by unfold inH at y; omega)⟩
  · have := (nbx_bf z4).2; omega
  · have := (nbx_bf z4).2; omega
  · have := (hS a (hg_lt h2) y).1
    unfold inH at this
    omega
theorem pts_1 (s w : Nat) (n : Int64) : pts (tE s w n .leaf .leaf .leaf) = 1 := rfl
/-- the end of all calls of the pile: an expr was made at a0 and is put -/
theorem pput {hA : re_H} {P0 : List Tr} {e : Tr} {a0 : Nat} (z : NB h b A N ff W) (ha0 : a0 = h.1) (hP : P0.length < 20) (hsub : ∀ e', e' ∈ P0 → e' ∈ nP A) (p : ph hA b P0 (nM A) (nO A) (nB A).length) (ze : ex hA e (.ref a0)) (he : inps e < 16 ∧ pts e ≤ 30) (m : kp (fun a => a = b ∨ a = b + 1 ∨ a = a0) h hA) (hl : hA.1 = h.1 + 1) (K : ∀ h', NB h' b (P0 ++ [e], A.2) N ff W → ofr b 1 h N h' N → Q 1 (.int (i32 (P0.length + 1))) h') : wp SC 3 d q 0 [(0, .ref b), (1, .ref a0)] [] hA Q := by
  refine c3 hP p ze (fun h' p' m' => ?_)
  have mm : kp (fun a => a = b ∨ a = b + 1 ∨ a = a0) h h' := kp_tr m (kp_mono m'.1 (fun a _ y => by unfold inJ at y; omega))
  have hPP : ∀ e', e' ∈ P0 ++ [e] → inps e' < 16 ∧ pts e' ≤ 30 := fun e' y => by
    rcases List.mem_append.mp y with y | y
    · exact z.2.2.2.2.2.2.2.2.2.2.1 e' (hsub e' y)
    · rw [List.mem_singleton.mp y]; exact he
  obtain ⟨n1, n2⟩ := NB_pile (k := 1) z p' mm (fun a h1 y => ⟨by unfold inH; omega, by have := z.2.2.2.2.2.1; have := z.2.2.2.2.2.2.1; omega⟩) (by have := m'.2.2; omega) hPP
  exact K h' n1 n2
end PO
