/-! Cellbrook: the calls of the pile. -/
def pI (h : re_H) (b md o bc : Nat) (hX : re_H) (P0 : List Tr) (k : Nat) : Prop := ph hX b P0 md o bc ∧ kp (fun a => a = b ∨ a = b + 1 ∨ a = h.1) h hX ∧ hX.1 = h.1 + k
def tp (P : List Tr) : Tr := P.getLastD .leaf
theorem tp_app (P : List Tr) (e : Tr) : tp (P ++ [e]) = e := by unfold tp; simp
theorem dl_app (P : List Tr) (e : Tr) : (P ++ [e]).dropLast = P := by simp
theorem last1 {P : List Tr} (h : 1 ≤ P.length) : ∃ P0 e, P = P0 ++ [e] := by
  have hne : P ≠ [] := fun y => by rw [y] at h; exact absurd h (by decide)
  exact ⟨P.dropLast, P.getLast hne, (List.dropLast_concat_getLast hne).symm⟩
/-- the calls that make one of w exprs cannot -/
def tooM (w : Nat) (P : List Tr) : Prop := P.length < w ∨ 30 < 1 + psum (P.drop (P.length - w))
theorem tooM1 {P0 : List Tr} {e : Tr} : tooM 1 (P0 ++ [e]) ↔ 30 < 1 + pts e := by
  have e1 : (P0 ++ [e]).drop ((P0 ++ [e]).length - 1) = [e] := by simp
  unfold tooM
  rw [e1]
  have e2 : psum [e] = pts e := by simp [psum]
  rw [e2]
  constructor
  · intro y
    rcases y with y | y
    · rw [List.length_append] at y
      exact absurd y (by simp)
    · exact y
  · exact fun y => Or.inr y
theorem tooM2 {P0 : List Tr} {e e' : Tr} : tooM 2 (P0 ++ [e] ++ [e']) ↔ 30 < 1 + pts e + pts e' := by
  have e1 : (P0 ++ [e] ++ [e']).drop ((P0 ++ [e] ++ [e']).length - 2) = [e, e'] := by simp [List.append_assoc]
  unfold tooM
  rw [e1]
  have e2 : psum [e, e'] = pts e + pts e' := by simp [psum]
  rw [e2]
  constructor
  · intro y
    rcases y with y | y
    · rw [List.length_append, List.length_append] at y
      exact absurd y (by simp)
    · omega
  · exact fun y => Or.inr (by omega)
theorem tooM3 {P0 : List Tr} {e e' e2 : Tr} : tooM 3 (P0 ++ [e] ++ [e'] ++ [e2]) ↔ 30 < 1 + pts e + pts e' + pts e2 := by
  have e1 : (P0 ++ [e] ++ [e'] ++ [e2]).drop ((P0 ++ [e] ++ [e'] ++ [e2]).length - 3) = [e, e', e2] := by simp [List.append_assoc]
  unfold tooM
  rw [e1]
  have e3 : psum [e, e', e2] = pts e + (pts e' + pts e2) := by simp [psum]
  rw [e3]
  constructor
  · intro y
    rcases y with y | y
    · rw [List.length_append, List.length_append, List.length_append] at y
      exact absurd y (by simp)
    · omega
  · exact fun y => Or.inr (by omega)
theorem inps_16 {s w : Nat} {n : Int64} {a c e : Tr} (hs : s = 2 → w < 4) (ha : inps a < 16) (hc : inps c < 16) (he : inps e < 16) : inps (tE s w n a c e) < 16 := by
  rw [inps_E]
  have h1 : (if s = 2 then 2 ^ w else 0) < 2 ^ 4 := by
    split
    next g => exact Nat.pow_lt_pow_right (by decide) (hs g)
    · decide
  exact Nat.or_lt_two_pow (n := 4) (Nat.or_lt_two_pow (n := 4) (Nat.or_lt_two_pow (n := 4) h1 ha) hc) he
section P1
variable {SC : List Value} {d q : Nat} {h : re_H} {Q : Nat → Value → re_H → Prop} {b ff W md o bc : Nat} {A : Nb} {N : List Nat} {P0 : List Tr}
theorem pI_0 (z : NB h b A N ff W) : pI h b (nM A) (nO A) (nB A).length h (nP A) 0 := ⟨NB_ph z, kp_rf, rfl⟩
theorem pI_tk {hX : re_H} {k : Nat} {e : Tr} (p : pI h b md o bc hX (P0 ++ [e]) k) (K : ∀ h' x, pI h b md o bc h' P0 k → ex h' e (.ref x) → (∀ (e' : Tr) (v' : Value), ex hX e' v' → ex h' e' v') → (∀ a, ¬ a = b → ¬ a = b + 1 → a < hX.1 → re_hg h' a = re_hg hX a) → h'.1 = hX.1 → Q 3 (.ref x) h') : wp SC 10 d q 0 [(0, .ref b)] [] hX Q :=
  c10 p.1 (fun h' x p' ze m => K h' x ⟨p', kp_tr p.2.1 (kp_mono m.1 (fun a _ y => by unfold inJ at y; omega)), (mo_sz m).trans p.2.2⟩ ze (fun e' v' y => ex_xk m.2.1 y) (fun a h1 h2 h3 => m.1.2 a h3 (fun y => by unfold inJ at y; omega)) (mo_sz m))
theorem ph_fr {h' : re_H} {P : List Tr} (e0 : re_hg h' b = re_hg h b) (e1 : re_hg h' (b + 1) = re_hg h (b + 1)) (ke : ∀ (e' : Tr) (v' : Value), ex h e' v' → ex h' e' v') (p : ph h b P md o bc) : ph h' b P md o bc := by
  obtain ⟨z1, ps, z2, z3, z4, z5, z6⟩ := p
  exact ⟨e0.trans z1, ps, e1.trans z2, z3, z4, fun i e' hi => (z5 i e' hi).elim (fun x y => ⟨x, y.1, ke _ _ y.2⟩), z6⟩
theorem pI_al {hX : re_H} (p : pI h b md o bc hX P0 0) : pI h b md o bc (re_hq hX (9, nb_d9)) P0 1 ∧ re_hg (re_hq hX (9, nb_d9)) h.1 = some (9, nb_d9) ∧ hX.1 = h.1 ∧ ∀ (e' : Tr) (v' : Value), ex hX e' v' → ex (re_hq hX (9, nb_d9)) e' v' := by
  obtain ⟨ps, p1, -⟩ := id p.1.2
  refine ⟨⟨ph_fr (hq_o (hg_lt p.1.1)) (hq_o (hg_lt p1)) (fun e' v' y => ex_xk xk_hq y) p.1, kp_tr p.2.1 kp_hq, ?_⟩, ?_, p.2.2, fun e' v' y => ex_xk xk_hq y⟩
  · rw [hq_1, p.2.2]
  · rw [← show hX.1 = h.1 from p.2.2]; exact hq_s
theorem pI_ob {hX h' : re_H} (hb : b + 1 < h.1) (p : pI h b md o bc hX P0 1) (l : h'.1 = hX.1) (eo : ∀ x, ¬ x = h.1 → re_hg h' x = re_hg hX x) (ke : ∀ (e' : Tr) (v' : Value), ex hX e' v' → ex h' e' v') : pI h b md o bc h' P0 1 :=
  ⟨ph_fr (eo _ (by omega)) (eo _ (by omega)) ke p.1, kp_tr p.2.1 ⟨Nat.le_of_eq l.symm, fun a _ y => eo a (fun z => y (Or.inr (Or.inr z)))⟩, l.trans p.2.2⟩
theorem NB_b (z : NB h b A N ff W) : b + 1 < h.1 := by
  have := z.2.2.2.2.2.1
  have := z.2.2.2.2.2.2.1
  omega
/-- the new expr is made, and put -/
theorem pmk {hX : re_H} {s w : Nat} {n : Int64} {a c e : Tr} {va vc ve : Value} (z : NB h b A N ff W) (p : pI h b (nM A) (nO A) (nB A).length hX P0 1) (hd : re_hg hX h.1 = some (9, nb_d9)) (hs : s < 9) (hw : w < 16) (ha : ex hX a va) (hc : ex hX c vc) (he : ex hX e ve) (hP : P0.length < 20) (hsub : ∀ e', e' ∈ P0 → e' ∈ nP A) (hi : inps (tE s w n a c e) < 16 ∧ pts (tE s w n a c e) ≤ 30) {Q3 : Nat → Value → re_H → Prop} (K3 : ∀ h', (re_hg h' b = some (0, hdw b P0.length (nM A) (nO A) (nB A).length)) → wp SC 3 d 0 0 [(0, .ref b), (1, .ref h.1)] [] h' Q3 → Q 0 .null h') (K : ∀ h', NB h' b (P0 ++ [tE s w n a c e], A.2) N ff W → ofr b 1 h N h' N → Q3 1 (.int (i32 (P0.length + 1))) h') : wp SC 640 d q 0 [(0, .ref h.1), (1, .int (i32 s)), (2, .int (i32 w)), (3, .long n), (5, va), (6, vc), (7, ve)] [] hX Q :=
  nwE hd hs hw ha hc he (fun h' ze l eo ke => by
    have p' := pI_ob (NB_b z) p l eo ke
    exact K3 h' p'.1.1 (pput z rfl hP hsub p'.1 ze hi p'.2.1 p'.2.2 K))
theorem c1 {l : Int64} (z : NB h b A N ff W) (Kx : (nP A).length = 20 → 0 < q ∧ Q 4 .null h) (K : (nP A).length < 20 → ∀ h', NB h' b (nP A ++ [tE 0 0 l .leaf .leaf .leaf], A.2) N ff W → ofr b 1 h N h' N → Q 1 (.int (i32 ((nP A).length + 1))) h') : wp SC 1 (d + 1) q 0 [(0, .ref b), (1, .long l)] [] h Q := by
  have hl : (nP A).length ≤ 20 := by obtain ⟨ps, -, -, p3, -⟩ := z.2.1; exact p3
  rcases Nat.lt_or_ge (nP A).length 20 with hp | hp
  · refine B1_0 z.1 rfl (s1 := 0) (s2 := q) (by omega) (c2 hp z.1 (ret0 (B1_4 ?_)))
    obtain ⟨p, hd, -, ke⟩ := pI_al (pI_0 z)
    exact B1_8 hd rfl (pmk z p hd (by omega) (by omega) (ex_leaf.mpr rfl) (ex_leaf.mpr rfl) (ex_leaf.mpr rfl) hp (fun _ y => y) ⟨inps_16 (fun y => by cases y) (by decide) (by decide) (by decide), by rw [pts_1]; omega⟩ (fun h' e0 y => ret0 (B1_18 e0 rfl y)) (fun h' n1 o1 => ret1 (B1_21 (K hp h' n1 o1))))
  · obtain ⟨k1, k2⟩ := Kx (by omega)
    exact B1_0 z.1 rfl (s1 := q) (s2 := 0) (by omega) (c2x (by omega) z.1 k1 (retx (x := 0) k2))
theorem c4 {n : Nat} (hn : n < 16) (z : NB h b A N ff W) (Kx : (nP A).length = 20 → 0 < q ∧ Q 4 .null h) (K : (nP A).length < 20 → ∀ h', NB h' b (nP A ++ [tE 1 n 0 .leaf .leaf .leaf], A.2) N ff W → ofr b 1 h N h' N → Q 1 (.int (i32 ((nP A).length + 1))) h') : wp SC 4 (d + 1) q 0 [(0, .ref b), (1, .int (i32 n))] [] h Q := by
  have hl : (nP A).length ≤ 20 := by obtain ⟨ps, -, -, p3, -⟩ := z.2.1; exact p3
  refine B4_0 z.1 rfl (s1 := 0) (s2 := q) (by omega) (c5 hn (ret0 ?_))
  rcases Nat.lt_or_ge (nP A).length 20 with hp | hp
  · refine B4_5 z.1 rfl (s1 := 0) (s2 := q) (by omega) (c2 hp z.1 (ret0 (B4_9 ?_)))
    obtain ⟨p, hd, -, ke⟩ := pI_al (pI_0 z)
    exact B4_13 hd rfl (pmk z p hd (by omega) hn (ex_leaf.mpr rfl) (ex_leaf.mpr rfl) (ex_leaf.mpr rfl) hp (fun _ y => y) ⟨inps_16 (fun y => by cases y) (by decide) (by decide) (by decide), by rw [pts_1]; omega⟩ (fun h' e0 y => ret0 (B4_23 e0 rfl y)) (fun h' n1 o1 => ret1 (B4_26 (K hp h' n1 o1))))
  · obtain ⟨k1, k2⟩ := Kx (by omega)
    exact B4_5 z.1 rfl (s1 := q) (s2 := 0) (by omega) (c2x (by omega) z.1 k1 (retx (x := 0) k2))
theorem c4x {x : Int32} (hx : x < 0 ∨ ¬ x < i32 16) (z : NB h b A N ff W) (hq : 0 < q) (K : Q 6 .null h) : wp SC 4 (d + 1) q 0 [(0, .ref b), (1, .int x)] [] h Q :=
  B4_0 z.1 rfl (s1 := q) (s2 := 0) (by omega) (c5x hx hq (retx (x := 2) K))
theorem c6 {n : Nat} (hn : n < 4) (z : NB h b A N ff W) (Kx : (nP A).length = 20 → 0 < q ∧ Q 4 .null h) (K : (nP A).length < 20 → ∀ h', NB h' b (nP A ++ [tE 2 n 0 .leaf .leaf .leaf], A.2) N ff W → ofr b 1 h N h' N → Q 1 (.int (i32 ((nP A).length + 1))) h') : wp SC 6 (d + 1) q 0 [(0, .ref b), (1, .int (i32 n))] [] h Q := by
  have hl : (nP A).length ≤ 20 := by obtain ⟨ps, -, -, p3, -⟩ := z.2.1; exact p3
  refine B6_0 z.1 rfl (s1 := 0) (s2 := q) (by omega) (c7 hn (ret0 ?_))
  rcases Nat.lt_or_ge (nP A).length 20 with hp | hp
  · refine B6_5 z.1 rfl (s1 := 0) (s2 := q) (by omega) (c2 hp z.1 (ret0 (B6_9 ?_)))
    obtain ⟨p, hd, -, ke⟩ := pI_al (pI_0 z)
    exact B6_13 hd rfl (pmk z p hd (by omega) (by omega) (ex_leaf.mpr rfl) (ex_leaf.mpr rfl) (ex_leaf.mpr rfl) hp (fun _ y => y) ⟨inps_16 (fun _ => hn) (by decide) (by decide) (by decide), by rw [pts_1]; omega⟩ (fun h' e0 y => ret0 (B6_23 e0 rfl y)) (fun h' n1 o1 => ret1 (B6_26 (K hp h' n1 o1))))
  · obtain ⟨k1, k2⟩ := Kx (by omega)
    exact B6_5 z.1 rfl (s1 := q) (s2 := 0) (by omega) (c2x (by omega) z.1 k1 (retx (x := 0) k2))
theorem c6x {x : Int32} (hx : x < 0 ∨ ¬ x < i32 4) (z : NB h b A N ff W) (hq : 0 < q) (K : Q 6 .null h) : wp SC 6 (d + 1) q 0 [(0, .ref b), (1, .int x)] [] h Q :=
  B6_0 z.1 rfl (s1 := q) (s2 := 0) (by omega) (c7x hx hq (retx (x := 2) K))
/-- the exprs that a call takes -/
theorem NB_in (z : NB h b A N ff W) {e : Tr} (he : e ∈ nP A) : inps e < 16 ∧ pts e ≤ 30 := z.2.2.2.2.2.2.2.2.2.2.1 e he
theorem NB_20 (z : NB h b A N ff W) : (nP A).length ≤ 20 := by obtain ⟨ps, -, -, p3, -⟩ := z.2.1; exact p3
theorem c8 (z : NB h b A N ff W) (Kx : tooM 1 (nP A) → 0 < q ∧ Q 4 .null h) (K : ¬ tooM 1 (nP A) → ∀ h', NB h' b ((nP A).dropLast ++ [tE 3 0 0 (tp (nP A)) .leaf .leaf], A.2) N ff W → ofr b 1 h N h' N → Q 1 (.int (i32 ((nP A).dropLast.length + 1))) h') : wp SC 8 (d + 1) q 0 [(0, .ref b)] [] h Q := by
  by_cases ht : tooM 1 (nP A)
  · obtain ⟨k1, k2⟩ := Kx ht
    exact B8_0 z.1 rfl (s1 := q) (s2 := 0) (by omega) (c9 (w := 1) (by omega) (NB_ph z) (NB_pt z) (fun _ => ⟨k1, retx (x := 0) k2⟩) (fun y => absurd ht y))
  refine B8_0 z.1 rfl (s1 := 0) (s2 := q) (by omega) (c9 (w := 1) (by omega) (NB_ph z) (NB_pt z) (fun y => absurd y ht) (fun _ => ret0 (B8_5 ?_)))
  have h20 := NB_20 z
  obtain ⟨P0, e, hP⟩ := last1 (P := nP A) (by rcases Nat.lt_or_ge (nP A).length 1 with g | g; exact absurd (Or.inl g) ht; exact g)
  have K := K ht
  have he := NB_in z (e := e) (by rw [hP]; simp)
  have hs : ∀ e', e' ∈ P0 → e' ∈ nP A := fun e' y => by rw [hP]; exact List.mem_append_left _ y
  have pi0 := pI_0 z
  rw [hP] at ht K h20 pi0
  rw [tooM1] at ht
  rw [tp_app, dl_app] at K
  rw [List.length_append] at h20
  have h20 : P0.length + 1 ≤ 20 := h20
  obtain ⟨p, hd, -, ke⟩ := pI_al pi0
  refine B8_9 (p.1.1) rfl (pI_tk p (fun h' x p' ze kx eo l => ret3 ?_))
  have hb := NB_b z
  have hd' : re_hg h' h.1 = some (9, nb_d9) := (eo _ (by omega) (by omega) (Nat.lt_succ_self h.1)).trans hd
  exact B8_17 (Or.inr ⟨x, rfl⟩) hd' rfl (pmk (n := 0) z p' hd' (by omega) (by omega) ze (ex_leaf.mpr rfl) (ex_leaf.mpr rfl) (by omega) hs ⟨inps_16 (fun y => by cases y) he.1 (by decide) (by decide), by rw [pts_E]; show 1 + pts e + 0 + 0 ≤ 30; omega⟩ (fun h' e0 y => ret0 (B8_22 e0 rfl y)) (fun h' n1 o1 => ret1 (B8_25 (K h' n1 o1))))
theorem c14 {n : Nat} (hn : n < 16) (z : NB h b A N ff W) (Kx : tooM 1 (nP A) → 0 < q ∧ Q 4 .null h) (K : ¬ tooM 1 (nP A) → ∀ h', NB h' b ((nP A).dropLast ++ [tE 7 n 0 .leaf (tp (nP A)) .leaf], A.2) N ff W → ofr b 1 h N h' N → Q 1 (.int (i32 ((nP A).dropLast.length + 1))) h') : wp SC 14 (d + 1) q 0 [(0, .ref b), (1, .int (i32 n))] [] h Q := by
  refine B14_0 z.1 rfl (s1 := 0) (s2 := q) (by omega) (c5 hn (ret0 ?_))
  by_cases ht : tooM 1 (nP A)
  · obtain ⟨k1, k2⟩ := Kx ht
    exact B14_5 z.1 rfl (s1 := q) (s2 := 0) (by omega) (c9 (w := 1) (by omega) (NB_ph z) (NB_pt z) (fun _ => ⟨k1, retx (x := 0) k2⟩) (fun y => absurd ht y))
  refine B14_5 z.1 rfl (s1 := 0) (s2 := q) (by omega) (c9 (w := 1) (by omega) (NB_ph z) (NB_pt z) (fun y => absurd y ht) (fun _ => ret0 (B14_10 ?_)))
  have h20 := NB_20 z
  obtain ⟨P0, e, hP⟩ := last1 (P := nP A) (by rcases Nat.lt_or_ge (nP A).length 1 with g | g; exact absurd (Or.inl g) ht; exact g)
  have K := K ht
  have he := NB_in z (e := e) (by rw [hP]; simp)
  have hs : ∀ e', e' ∈ P0 → e' ∈ nP A := fun e' y => by rw [hP]; exact List.mem_append_left _ y
  have pi0 := pI_0 z
  rw [hP] at ht K h20 pi0
  rw [tooM1] at ht
  rw [tp_app, dl_app] at K
  rw [List.length_append] at h20
  have h20 : P0.length + 1 ≤ 20 := h20
  obtain ⟨p, hd, -, ke⟩ := pI_al pi0
  refine B14_14 (p.1.1) rfl (pI_tk p (fun h' x p' ze kx eo l => ret3 ?_))
  have hb := NB_b z
  have hd' : re_hg h' h.1 = some (9, nb_d9) := (eo _ (by omega) (by omega) (Nat.lt_succ_self h.1)).trans hd
  exact B14_24 (Or.inr ⟨x, rfl⟩) (Or.inl rfl) hd' rfl (pmk (n := 0) z p' hd' (by omega) hn (ex_leaf.mpr rfl) ze (ex_leaf.mpr rfl) (by omega) hs ⟨inps_16 (fun y => by cases y) (by decide) he.1 (by decide), by rw [pts_E]; show 1 + 0 + pts e + 0 ≤ 30; omega⟩ (fun h' e0 y => ret0 (B14_28 e0 rfl y)) (fun h' n1 o1 => ret1 (B14_31 (K h' n1 o1))))
theorem c14x {x : Int32} (hx : x < 0 ∨ ¬ x < i32 16) (z : NB h b A N ff W) (hq : 0 < q) (K : Q 6 .null h) : wp SC 14 (d + 1) q 0 [(0, .ref b), (1, .int x)] [] h Q :=
  B14_0 z.1 rfl (s1 := q) (s2 := 0) (by omega) (c5x hx hq (retx (x := 2) K))
theorem last2 {P : List Tr} (h : ¬ tooM 2 P) : ∃ P0 e e', P = P0 ++ [e] ++ [e'] := by
  have h2 : 2 ≤ P.length := by rcases Nat.lt_or_ge P.length 2 with g | g; exact absurd (Or.inl g) h; exact g
  obtain ⟨P1, e', rfl⟩ := last1 (P := P) (by omega)
  rw [List.length_append] at h2
  obtain ⟨P0, e, rfl⟩ := last1 (P := P1) (by have : P1.length + 1 ≥ 2 := h2; omega)
  exact ⟨P0, e, e', rfl⟩
theorem last3 {P : List Tr} (h : ¬ tooM 3 P) : ∃ P0 e e' e2, P = P0 ++ [e] ++ [e'] ++ [e2] := by
  have h2 : 3 ≤ P.length := by rcases Nat.lt_or_ge P.length 3 with g | g; exact absurd (Or.inl g) h; exact g
  obtain ⟨P1, e2, rfl⟩ := last1 (P := P) (by omega)
  rw [List.length_append] at h2
  have h2 : P1.length + 1 ≥ 3 := h2
  obtain ⟨P2, e', rfl⟩ := last1 (P := P1) (by omega)
  rw [List.length_append] at h2
  have h2 : P2.length + 1 + 1 ≥ 3 := h2
  obtain ⟨P0, e, rfl⟩ := last1 (P := P2) (by omega)
  exact ⟨P0, e, e', e2, rfl⟩
/-- two are taken, one is made of them -/
theorem two_ {e e' : Tr} (z : NB h b A N ff W) (hP : nP A = P0 ++ [e] ++ [e']) (ht : ¬ tooM 2 (nP A)) : pI h b (nM A) (nO A) (nB A).length h (P0 ++ [e] ++ [e']) 0 ∧ (inps e < 16 ∧ inps e' < 16) ∧ pts e + pts e' ≤ 29 ∧ P0.length + 2 ≤ 20 ∧ ∀ x, x ∈ P0 → x ∈ nP A := by
  have h20 := NB_20 z
  have pi0 := pI_0 z
  have he := NB_in z (e := e) (by rw [hP]; simp)
  have he' := NB_in z (e := e') (by rw [hP]; simp)
  have hs : ∀ x, x ∈ P0 → x ∈ nP A := fun x y => by rw [hP]; exact List.mem_append_left _ (List.mem_append_left _ y)
  rw [hP] at ht h20 pi0
  rw [tooM2] at ht
  rw [List.length_append, List.length_append] at h20
  exact ⟨pi0, ⟨he.1, he'.1⟩, by omega, h20, hs⟩
theorem c11 {sg9 : Nat} (hn : sg9 < 4) (z : NB h b A N ff W) (Kx : tooM 2 (nP A) → 0 < q ∧ Q 4 .null h) (K : ¬ tooM 2 (nP A) → ∀ h', NB h' b ((nP A).dropLast.dropLast ++ [tE 4 sg9 0 (tp (nP A).dropLast) (tp (nP A)) .leaf], A.2) N ff W → ofr b 1 h N h' N → Q 1 (.int (i32 ((nP A).dropLast.dropLast.length + 1))) h') : wp SC 11 (d + 1) q 0 [(0, .ref b), (1, .int (i32 sg9))] [] h Q := by
  refine B11_0 (fun g => absurd g (i3_neg (by omega))) (fun _ => B11_4 (fun _ => ?_) (fun g => absurd ((i3_lt (by omega) (by omega)).mpr hn) g))
  by_cases ht : tooM 2 (nP A)
  · obtain ⟨k1, k2⟩ := Kx ht
    exact B11_19 z.1 rfl (s1 := q) (s2 := 0) (by omega) (c9 (w := 2) (by omega) (NB_ph z) (NB_pt z) (fun _ => ⟨k1, retx (x := 0) k2⟩) (fun y => absurd ht y))
  have K := K ht
  obtain ⟨P0, e, e', hP⟩ := last2 ht
  obtain ⟨pi0, he, hpt, h20, hs⟩ := two_ z hP ht
  refine B11_19 z.1 rfl (s1 := 0) (s2 := q) (by omega) (c9 (w := 2) (by omega) (NB_ph z) (NB_pt z) (fun y => absurd y ht) (fun _ => ret0 ?_))
  rw [hP, dl_app, dl_app, tp_app, tp_app] at K
  have hb := NB_b z
  refine B11_24 z.1 rfl (pI_tk pi0 (fun h1 x1 p1 ze1 kx1 eo1 l1 => ret3 (B11_28 (Or.inr ⟨x1, rfl⟩) p1.1.1 rfl (pI_tk p1 (fun h2 x2 p2 ze2 kx2 eo2 l2 => ret3 (B11_33 (Or.inr ⟨x1, rfl⟩) (Or.inr ⟨x2, rfl⟩) ?_))))))
  obtain ⟨p3, hd, l3, ke⟩ := pI_al p2
  rw [l3]
  exact B11_38 (Or.inr ⟨x1, rfl⟩) (Or.inr ⟨x2, rfl⟩) hd rfl (pmk (n := 0) z p3 hd (by omega) (by omega) (ke _ _ ze2) (ke _ _ (kx2 _ _ ze1)) (ex_leaf.mpr rfl) (by omega) hs ⟨inps_16 (fun y => by cases y) he.1 he.2 (by decide), by rw [pts_E]; show 1 + pts e + pts e' + 0 ≤ 30; omega⟩ (fun h' e0 y => ret0 (B11_48 e0 rfl y)) (fun h' n1 o1 => ret1 (B11_51 (K h' n1 o1))))
theorem c11x {x : Int32} (hx : x < 0 ∨ ¬ x < i32 4) (hq : 0 < q) (K : Q 5 .null h) : wp SC 11 (d + 1) q 0 [(0, .ref b), (1, .int x)] [] h Q :=
  B11_0 (fun _ => B11_9 hq K) (fun g => B11_4 (fun g2 => hx.elim (fun y => absurd y g) (fun y => absurd g2 y)) (fun _ => B11_9 hq K))
theorem c13 {n : Nat} (hn : n < 16) (z : NB h b A N ff W) (Kx : tooM 2 (nP A) → 0 < q ∧ Q 4 .null h) (K : ¬ tooM 2 (nP A) → ∀ h', NB h' b ((nP A).dropLast.dropLast ++ [tE 6 n 0 (tp (nP A).dropLast) (tp (nP A)) .leaf], A.2) N ff W → ofr b 1 h N h' N → Q 1 (.int (i32 ((nP A).dropLast.dropLast.length + 1))) h') : wp SC 13 (d + 1) q 0 [(0, .ref b), (1, .int (i32 n))] [] h Q := by
  refine B13_0 z.1 rfl (s1 := 0) (s2 := q) (by omega) (c5 hn (ret0 ?_))
  by_cases ht : tooM 2 (nP A)
  · obtain ⟨k1, k2⟩ := Kx ht
    exact B13_5 z.1 rfl (s1 := q) (s2 := 0) (by omega) (c9 (w := 2) (by omega) (NB_ph z) (NB_pt z) (fun _ => ⟨k1, retx (x := 0) k2⟩) (fun y => absurd ht y))
  have K := K ht
  obtain ⟨P0, e, e', hP⟩ := last2 ht
  obtain ⟨pi0, he, hpt, h20, hs⟩ := two_ z hP ht
  refine B13_5 z.1 rfl (s1 := 0) (s2 := q) (by omega) (c9 (w := 2) (by omega) (NB_ph z) (NB_pt z) (fun y => absurd y ht) (fun _ => ret0 ?_))
  rw [hP, dl_app, dl_app, tp_app, tp_app] at K
  refine B13_10 z.1 rfl (pI_tk pi0 (fun h1 x1 p1 ze1 kx1 eo1 l1 => ret3 (B13_14 (Or.inr ⟨x1, rfl⟩) p1.1.1 rfl (pI_tk p1 (fun h2 x2 p2 ze2 kx2 eo2 l2 => ret3 (B13_19 (Or.inr ⟨x1, rfl⟩) (Or.inr ⟨x2, rfl⟩) ?_))))))
  obtain ⟨p3, hd, l3, ke⟩ := pI_al p2
  rw [l3]
  exact B13_24 (Or.inr ⟨x1, rfl⟩) (Or.inr ⟨x2, rfl⟩) hd rfl (pmk (n := 0) z p3 hd (by omega) hn (ke _ _ ze2) (ke _ _ (kx2 _ _ ze1)) (ex_leaf.mpr rfl) (by omega) hs ⟨inps_16 (fun y => by cases y) he.1 he.2 (by decide), by rw [pts_E]; show 1 + pts e + pts e' + 0 ≤ 30; omega⟩ (fun h' e0 y => ret0 (B13_35 e0 rfl y)) (fun h' n1 o1 => ret1 (B13_38 (K h' n1 o1))))
theorem c13x {x : Int32} (hx : x < 0 ∨ ¬ x < i32 16) (z : NB h b A N ff W) (hq : 0 < q) (K : Q 6 .null h) : wp SC 13 (d + 1) q 0 [(0, .ref b), (1, .int x)] [] h Q :=
  B13_0 z.1 rfl (s1 := q) (s2 := 0) (by omega) (c5x hx hq (retx (x := 2) K))
theorem c15 (z : NB h b A N ff W) (Kx : tooM 2 (nP A) → 0 < q ∧ Q 4 .null h) (K : ¬ tooM 2 (nP A) → ∀ h', NB h' b ((nP A).dropLast.dropLast ++ [tE 8 0 0 (tp (nP A).dropLast) (tp (nP A)) .leaf], A.2) N ff W → ofr b 1 h N h' N → Q 1 (.int (i32 ((nP A).dropLast.dropLast.length + 1))) h') : wp SC 15 (d + 1) q 0 [(0, .ref b)] [] h Q := by
  by_cases ht : tooM 2 (nP A)
  · obtain ⟨k1, k2⟩ := Kx ht
    exact B15_0 z.1 rfl (s1 := q) (s2 := 0) (by omega) (c9 (w := 2) (by omega) (NB_ph z) (NB_pt z) (fun _ => ⟨k1, retx (x := 0) k2⟩) (fun y => absurd ht y))
  have K := K ht
  obtain ⟨P0, e, e', hP⟩ := last2 ht
  obtain ⟨pi0, he, hpt, h20, hs⟩ := two_ z hP ht
  refine B15_0 z.1 rfl (s1 := 0) (s2 := q) (by omega) (c9 (w := 2) (by omega) (NB_ph z) (NB_pt z) (fun y => absurd y ht) (fun _ => ret0 ?_))
  rw [hP, dl_app, dl_app, tp_app, tp_app] at K
  refine B15_5 z.1 rfl (pI_tk pi0 (fun h1 x1 p1 ze1 kx1 eo1 l1 => ret3 (B15_9 (Or.inr ⟨x1, rfl⟩) p1.1.1 rfl (pI_tk p1 (fun h2 x2 p2 ze2 kx2 eo2 l2 => ret3 (B15_14 (Or.inr ⟨x1, rfl⟩) (Or.inr ⟨x2, rfl⟩) ?_))))))
  obtain ⟨p3, hd, l3, ke⟩ := pI_al p2
  rw [l3]
  exact B15_19 (Or.inr ⟨x1, rfl⟩) (Or.inr ⟨x2, rfl⟩) hd rfl (pmk (n := 0) z p3 hd (by omega) (by omega) (ke _ _ ze2) (ke _ _ (kx2 _ _ ze1)) (ex_leaf.mpr rfl) (by omega) hs ⟨inps_16 (fun y => by cases y) he.1 he.2 (by decide), by rw [pts_E]; show 1 + pts e + pts e' + 0 ≤ 30; omega⟩ (fun h' e0 y => ret0 (B15_30 e0 rfl y)) (fun h' n1 o1 => ret1 (B15_33 (K h' n1 o1))))
theorem c12 (z : NB h b A N ff W) (Kx : tooM 3 (nP A) → 0 < q ∧ Q 4 .null h) (K : ¬ tooM 3 (nP A) → ∀ h', NB h' b ((nP A).dropLast.dropLast.dropLast ++ [tE 5 0 0 (tp (nP A).dropLast.dropLast) (tp (nP A).dropLast) (tp (nP A))], A.2) N ff W → ofr b 1 h N h' N → Q 1 (.int (i32 ((nP A).dropLast.dropLast.dropLast.length + 1))) h') : wp SC 12 (d + 1) q 0 [(0, .ref b)] [] h Q := by
  by_cases ht : tooM 3 (nP A)
  · obtain ⟨k1, k2⟩ := Kx ht
    exact B12_0 z.1 rfl (s1 := q) (s2 := 0) (by omega) (c9 (w := 3) (by omega) (NB_ph z) (NB_pt z) (fun _ => ⟨k1, retx (x := 0) k2⟩) (fun y => absurd ht y))
  have K := K ht
  obtain ⟨P0, e, e', e2, hP⟩ := last3 ht
  refine B12_0 z.1 rfl (s1 := 0) (s2 := q) (by omega) (c9 (w := 3) (by omega) (NB_ph z) (NB_pt z) (fun y => absurd y ht) (fun _ => ret0 ?_))
  rw [hP, dl_app, dl_app, dl_app, tp_app, tp_app, tp_app] at K
  have h20 := NB_20 z
  have pi0 := pI_0 z
  have he := NB_in z (e := e) (by rw [hP]; simp)
  have he' := NB_in z (e := e') (by rw [hP]; simp)
  have he2 := NB_in z (e := e2) (by rw [hP]; simp)
  have hs : ∀ x, x ∈ P0 → x ∈ nP A := fun x y => by rw [hP]; exact List.mem_append_left _ (List.mem_append_left _ (List.mem_append_left _ y))
  rw [hP] at ht h20 pi0
  rw [tooM3] at ht
  rw [List.length_append, List.length_append, List.length_append] at h20
  have h20 : P0.length + 1 + 1 + 1 ≤ 20 := h20
  refine B12_5 z.1 rfl (pI_tk pi0 (fun h1 x1 p1 ze1 kx1 eo1 l1 => ret3 (B12_9 (Or.inr ⟨x1, rfl⟩) p1.1.1 rfl (pI_tk p1 (fun h2 x2 p2 ze2 kx2 eo2 l2 => ret3 (B12_14 (Or.inr ⟨x1, rfl⟩) (Or.inr ⟨x2, rfl⟩) p2.1.1 rfl (pI_tk p2 (fun h3 x3 p3 ze3 kx3 eo3 l3 => ret3 (B12_19 (Or.inr ⟨x1, rfl⟩) (Or.inr ⟨x2, rfl⟩) (Or.inr ⟨x3, rfl⟩) ?_)))))))))
  obtain ⟨p4, hd, l4, ke⟩ := pI_al p3
  rw [l4]
  exact B12_24 (Or.inr ⟨x1, rfl⟩) (Or.inr ⟨x2, rfl⟩) (Or.inr ⟨x3, rfl⟩) hd rfl (pmk (n := 0) z p4 hd (by omega) (by omega) (ke _ _ ze3) (ke _ _ (kx3 _ _ ze2)) (ke _ _ (kx3 _ _ (kx2 _ _ ze1))) (by omega) hs ⟨inps_16 (fun y => by cases y) he.1 he'.1 he2.1, by rw [pts_E]; omega⟩ (fun h' e0 y => ret0 (B12_34 e0 rfl y)) (fun h' n1 o1 => ret1 (B12_37 (K h' n1 o1))))
end P1
