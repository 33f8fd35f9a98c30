/-! The notebook. -/
/-- pile, code, made, inputs, seed, mode, branches, what runs change -/
abbrev Nb : Type := List Tr × Vr × Nat × (Nat → Int64) × Int32 × Nat × List Vr × Yr
abbrev nP (A : Nb) : List Tr := A.1
abbrev nV (A : Nb) : Vr := A.2.1
abbrev nM (A : Nb) : Nat := A.2.2.1
abbrev nIp (A : Nb) : Nat → Int64 := A.2.2.2.1
abbrev nS (A : Nb) : Int32 := A.2.2.2.2.1
abbrev nO (A : Nb) : Nat := A.2.2.2.2.2.1
abbrev nB (A : Nb) : List Vr := A.2.2.2.2.2.2.1
abbrev nY (A : Nb) : Yr := A.2.2.2.2.2.2.2
def hdw (b ht md mo' bc : Nat) : List Value := [.ref (b + 1), .int (i32 ht), .ref (b + 2), .int (i32 md), .ref (b + 41), .ref (b + 48), .ref (b + 298), .ref (b + 299), .int (i32 mo'), .ref (b + 300), .int (i32 bc)]
/-- the pile -/
def pil (h : re_H) (b : Nat) (P : List Tr) : Prop := ∃ ps : List Value, re_hg h (b + 1) = some (103, ps) ∧ ps.length = 20 ∧ P.length ≤ 20 ∧ (∀ (i : Nat) (e : Tr), P[i]? = some e → ∃ x : Nat, ps[i]? = some (.ref x) ∧ ex h e (.ref x)) ∧ ∀ i : Nat, P.length ≤ i → i < 20 → ps[i]? = some .null
/-- the branches -/
def brh (h : re_H) (b : Nat) (B : List Vr) : Prop := ∃ bs : List Value, re_hg h (b + 300) = some (107, bs) ∧ bs.length = 4 ∧ B.length ≤ 4 ∧ (∀ (i : Nat) (U : Vr), B[i]? = some U → ∃ p : Nat, bs[i]? = some (.ref p) ∧ 603 ≤ p ∧ vr h p U) ∧ ∀ i : Nat, B.length ≤ i → i < 4 → bs[i]? = some .null
/-- code is well made -/
def vwf (V : Vr) : Prop := ∀ c, c < 12 → ∀ q, q ∈ (V c).2 → inps q.2 < 16 ∧ wE q.2 = true
def NB (h : re_H) (b : Nat) (A : Nb) (N : List Nat) (ff W : Nat) : Prop := re_hg h b = some (0, hdw b (nP A).length (nM A) (nO A) (nB A).length) ∧ pil h b (nP A) ∧ brh h b (nB A) ∧ nbx h b (nV A) (nIp A) (nS A) (nY A) N ff W ∧ (∀ x, x ∈ N → 603 ≤ x) ∧ b + 300 < 603 ∧ 603 ≤ h.1 ∧ (nM A ≤ 12 ∧ nO A ≤ 2) ∧ mwf (nV A) (nY A).1 ∧ 0 < (nY A).2.2 ∧ (∀ e, e ∈ nP A → inps e < 16 ∧ pts e ≤ 30) ∧ ∀ U, U ∈ nB A → vwf U
/-- what calls write; what they change, from outside: at most k cells that are no nodes are made -/
def inN (b a : Nat) : Prop := (b ≤ a ∧ a ≤ b + 290) ∨ a = b + 300
def ofr (b k : Nat) (h : re_H) (N : List Nat) (h' : re_H) (N' : List Nat) : Prop := h.1 ≤ h'.1 ∧ (∀ a, a < h.1 → ¬ (b ≤ a ∧ a ≤ b + 300) → ¬ a ∈ N → re_hg h' a = re_hg h a) ∧ xk h h' ∧ h'.1 + N.length ≤ h.1 + N'.length + k ∧ (∀ x, x ∈ N → x ∈ N') ∧ ∀ x, x ∈ N' → x ∈ N ∨ h.1 ≤ x
theorem ofr_rf {b k : Nat} {h : re_H} {N : List Nat} : ofr b k h N h N := ⟨Nat.le_refl _, fun _ _ _ _ => rfl, xk_rf, by omega, fun _ y => y, fun _ y => Or.inl y⟩
theorem ofr_tr {b k k1 k2 : Nat} {h h1 h2 : re_H} {N N1 N2 : List Nat} (a : ofr b k1 h N h1 N1) (c : ofr b k2 h1 N1 h2 N2) (hk : k1 + k2 ≤ k) : ofr b k h N h2 N2 := by
  obtain ⟨a1, a2, a3, a5, a6, a7⟩ := a
  obtain ⟨b1, b2, b3, b5, b6, b7⟩ := c
  refine ⟨Nat.le_trans a1 b1, fun x hx h1 h3 => ?_, xk_tr a3 b3, by omega, fun x hx => b6 x (a6 x hx), fun x hx => ?_⟩
  · rw [b2 x (Nat.lt_of_lt_of_le hx a1) h1 (fun z => (a7 x z).elim h3 (fun z2 => by omega))]
    exact a2 x hx h1 h3
  · rcases b7 x hx with y | y
    · exact a7 x y
    · exact Or.inr (Nat.le_trans a1 y)
theorem ofr_mo {b k : Nat} {h h' : re_H} {N : List Nat} {S : Nat → Prop} (m : mo S k h h') (hS : ∀ a, S a → b ≤ a ∧ a ≤ b + 300) : ofr b k h N h' N :=
  ⟨m.1.1, fun a ha h1 _ => m.1.2 a ha (fun y => h1 (hS a y)), m.2.1, by have := m.2.2; omega, fun _ y => y, fun _ y => Or.inl y⟩
theorem ofr_bru {b : Nat} {h h' : re_H} {N N' : List Nat} (u : bru b h N h' N') : ofr b 0 h N h' N' :=
  ⟨u.1, fun a ha h1 h2 => u.2.1 a ha (fun y => h1 (by unfold inB at y; omega)) h2, u.2.2.1, by have := u.2.2.2.1; omega, u.2.2.2.2.1, u.2.2.2.2.2⟩
theorem ofr_up {b k k' : Nat} {h h' : re_H} {N N' : List Nat} (u : ofr b k h N h' N') (hk : k ≤ k') : ofr b k' h N h' N' := ⟨u.1, u.2.1, u.2.2.1, by have := u.2.2.2.1; omega, u.2.2.2.2⟩
section NG
variable {h h' : re_H} {b k n : Nat} {E : Ev} {V V' : Vr} {I I' : Nat → Int64} {sd sd' : Int32} {RR RR' : Nat → Rs} {Y : Yr} {N F : List Nat} {ho la ff W : Nat}
/-- what was written lies in the notebook, outside the store, the machine and the sheets -/
theorem bk_gen (z : bk h b E V I sd RR N F ho la ff) (m : mo (inN b) n h h') (v' : vr h' (b + 2) V') (l' : lk h' (b + 41) (b + 2) V') (u1 : re_hg h' (b + 48) = some (4, [.ref (b + 49), .int sd'])) (u2 : re_hg h' (b + 49) = some (101, lst 4 (fun i => .long (I' i)))) (ra : rall h' E (b + 50) RR') : bk h' b E V' I' sd' RR' N F ho la ff := by
  obtain ⟨⟨z1, z1b, z1c, z1d, z1e, z1f⟩, z2, z3, z4, z5, z6, z7⟩ := z
  have e : ∀ a, a < h.1 → ¬ inN b a → re_hg h' a = re_hg h a := fun a ha hn => m.1.2 a ha hn
  have nN : ∀ x, x ∈ N → ¬ inN b x := fun x hx y => by
    have := z6 x hx
    unfold inN at y
    omega
  have hlt := m.1.1
  refine ⟨⟨v', l', u1, u2, ?_, ?_⟩, ra, ⟨?_, z3.2⟩, z4, ?_, z6, by omega⟩
  · unfold shc; rw [e _ (by omega) (by unfold inN; omega)]; exact z1e
  · unfold shc; rw [e _ (by omega) (by unfold inN; omega)]; exact z1f
  · obtain ⟨⟨vl, vf, e1, cN, cF⟩, dN, dF, sub, cells, cnt, low⟩ := z3.1
    have es : re_hg h' (b + 291) = re_hg h (b + 291) := e _ (by omega) (by unfold inN; omega)
    have en' : ∀ x, x ∈ N → re_hg h' x = re_hg h x := fun x hx => e x (low x hx) (nN x hx)
    refine ⟨⟨vl, vf, es.trans e1, chn_cong (fun x hx w hw => ⟨w, (en' x hx).trans hw, rfl⟩) cN, chn_cong (fun x hx w hw => ⟨w, (en' x (sub x hx)).trans hw, rfl⟩) cF⟩, dN, dF, sub, fun x hx => ?_, cnt, fun x hx => Nat.lt_of_lt_of_le (low x hx) hlt⟩
    obtain ⟨c0, nm, nu, c3, c4, mb, nx, y1, y2⟩ := cells x hx
    exact ⟨c0, nm, nu, c3, c4, mb, nx, (en' x hx).trans y1, y2⟩
  · obtain ⟨x5, x8, x9, x10, x11, kn, ps, ss, es, ns, fs, ⟨-, a0, a1, a2, a3, a4, a5, -⟩, l⟩ := z5
    have em : ∀ k, k ≤ 5 → re_hg h' (b + 292 + k) = re_hg h (b + 292 + k) := fun k hk => e _ (by omega) (by unfold inN; omega)
    exact ⟨x5, x8, x9, x10, x11, kn, ps, ss, es, ns, fs, ⟨rfl, (em 0 (by omega)).trans a0, (em 1 (by omega)).trans a1, (em 2 (by omega)).trans a2, (em 3 (by omega)).trans a3, (em 4 (by omega)).trans a4, (em 5 (by omega)).trans a5, fun _ _ => rfl⟩, l⟩
theorem bk_nd (z : bk h b E V I sd RR N F ho la ff) (m : mo (inN b) n h h') : ∀ x, E.2.2.1 x → re_hg h' x = re_hg h x := fun x hx => m.1.2 x (z.2.2.1.1.2.2.2.2.2.2 x (z.2.2.1.2 x hx).1) (fun y => by
  have := z.2.2.2.2.2.1 x (z.2.2.1.2 x hx).1
  unfold inN at y
  omega)
/-- where results are not written -/
def inX (b a : Nat) : Prop := (b ≤ a ∧ a ≤ b + 49) ∨ a = b + 300
theorem inX_N {a : Nat} (y : inX b a) : inN b a := by unfold inX at y; unfold inN; omega
theorem rall_x (z : bk h b E V I sd RR N F ho la ff) (m : mo (inX b) n h h') : rall h' E (b + 50) RR := by
  have m' : mo (inN b) n h h' := mo_mono m (fun a _ y => inX_N y) (Nat.le_refl _)
  exact rall_fr (fun a ha => m.1.2 a (by have := z.2.2.2.2.2.2; omega) (fun y => by unfold inX at y; omega)) (bk_nd z m') m.2.1 (eLe_rf E) z.2.1
/-- the sheets' part, behind a change that is no run -/
theorem nbx_gen (z : nbx h b V I sd Y N ff W) (m : mo (inX b) n h h') (v' : vr h' (b + 2) V') (l' : lk h' (b + 41) (b + 2) V') (u1 : re_hg h' (b + 48) = some (4, [.ref (b + 49), .int sd'])) (u2 : re_hg h' (b + 49) = some (101, lst 4 (fun i => .long (I' i)))) : nbx h' b V' I' sd' Y N ff W := by
  obtain ⟨E, F, ho, la, f0, z1, z2⟩ := z
  exact ⟨E, F, ho, la, f0, bk_gen z1 (mo_mono m (fun a _ y => inX_N y) (Nat.le_refl _)) v' l' u1 u2 (rall_x z1 m), z2⟩
theorem lk_mo {S : Nat → Prop} {l v : Nat} (m : mo S n h h') (hs : ∀ a, inL l a → ¬ S a) (c : lk h l v V) : lk h' l v V := by
  obtain ⟨F, c1, c2⟩ := c
  exact ⟨F, lkr_mo m hs c1, c2⟩
/-- behind a change of the pile, the header or the branches -/
def inH (b a : Nat) : Prop := a = b ∨ a = b + 1 ∨ a = b + 300
theorem inH_X {a : Nat} (y : inH b a) : inX b a := by unfold inH at y; unfold inX; omega
theorem nbx_bf (z : nbx h b V I sd Y N ff W) : bfx h b V I sd ∧ b + 300 < h.1 := by
  obtain ⟨E, F, ho, la, f0, z1, z2⟩ := z
  exact ⟨z1.1, z1.2.2.2.2.2.2⟩
theorem nbx_h (z : nbx h b V I sd Y N ff W) (m : mo (inH b) n h h') : nbx h' b V I sd Y N ff W := by
  obtain ⟨⟨z1, z2, z3, z4, -⟩, hl⟩ := nbx_bf z
  exact nbx_gen z (mo_mono m (fun a _ y => inH_X y) (Nat.le_refl _)) (vr_mo m (fun a ha y => by unfold inV at ha; unfold inH at y; omega) (by omega) z1) (lk_mo m (fun a ha y => by unfold inL at ha; unfold inH at y; omega) z2) (mo_g m (fun y => by unfold inH at y; omega) z3) (mo_g m (fun y => by unfold inH at y; omega) z4)
theorem pil_fr {P : List Tr} (e : re_hg h' (b + 1) = re_hg h (b + 1)) (kx : xk h h') (z : pil h b P) : pil h' b P := by
  obtain ⟨ps, z1, z2, z3, z4, z5⟩ := z
  exact ⟨ps, e.trans z1, z2, z3, fun i e' hi => (z4 i e' hi).elim (fun x y => ⟨x, y.1, ex_xk kx y.2⟩), z5⟩
/-- a version's cells are none of the nodes -/
theorem vr_cls {p a : Nat} {U : Vr} (z : vr h p U) (ha : inV p a) : ∃ t w, re_hg h a = some (t, w) ∧ ¬ t = 10 := by
  unfold inV at ha
  rcases Nat.lt_or_ge a (p + 3) with g | g
  · rcases (show a = p ∨ a = p + 1 ∨ a = p + 2 by omega) with rfl | rfl | rfl
    · exact ⟨_, _, z.1, by omega⟩
    · exact ⟨_, _, z.2.1, by omega⟩
    · exact ⟨_, _, z.2.2.1, by omega⟩
  · obtain ⟨ns, es, c1, -⟩ := z.2.2.2 ((a - (p + 3)) / 3) (by omega)
    rcases (show a = p + 3 + 3 * ((a - (p + 3)) / 3) ∨ a = p + 3 + 3 * ((a - (p + 3)) / 3) + 1 ∨ a = p + 3 + 3 * ((a - (p + 3)) / 3) + 2 by omega) with g2 | g2 | g2
    · rw [g2]; exact ⟨_, _, c1.1, by omega⟩
    · rw [g2]; exact ⟨_, _, c1.2.1, by omega⟩
    · rw [g2]; exact ⟨_, _, c1.2.2.1, by omega⟩
theorem brh_fr {B : List Vr} (e0 : re_hg h' (b + 300) = re_hg h (b + 300)) (e : ∀ a t w, 603 ≤ a → re_hg h a = some (t, w) → ¬ t = 10 → re_hg h' a = re_hg h a) (kx : xk h h') (z : brh h b B) : brh h' b B := by
  obtain ⟨bs, z1, z2, z3, z4, z5⟩ := z
  refine ⟨bs, e0.trans z1, z2, z3, fun i U hi => ?_, z5⟩
  obtain ⟨p, y1, y2, y3⟩ := z4 i U hi
  refine ⟨p, y1, y2, vr_fr (fun a ha => ?_) kx y3⟩
  obtain ⟨t, w, y4, y5⟩ := vr_cls y3 ha
  exact e a t w (by unfold inV at ha; omega) y4 y5
theorem nbx_10 (z : nbx h b V I sd Y N ff W) {x : Nat} (hx : x ∈ N) : x < h.1 ∧ ∃ w, re_hg h x = some (10, w) := by
  obtain ⟨E, F, ho, la, f0, z1, -⟩ := z
  obtain ⟨-, -, -, -, c5, -, c7⟩ := z1.2.2.1.1
  obtain ⟨_, _, _, _, _, _, _, y, -⟩ := c5 x hx
  exact ⟨c7 x hx, _, y⟩
/-- a notebook stays, if its cells do -/
theorem nbx_fr (z : nbx h b V I sd Y N ff W) (e : ∀ a, b ≤ a → a ≤ b + 300 → re_hg h' a = re_hg h a) (eN : ∀ x, x ∈ N → re_hg h' x = re_hg h x) (kx : xk h h') (hl : h.1 ≤ h'.1) : nbx h' b V I sd Y N ff W := by
  obtain ⟨E, F, ho, la, f0, ⟨z1, z2, z3, z4, z5, z6, z7⟩, zz⟩ := z
  have hk : ∀ x, E.2.2.1 x → re_hg h' x = re_hg h x := fun x hx => eN x (z3.2 x hx).1
  refine ⟨E, F, ho, la, f0, ⟨bfx_fr (fun a ha => e a (by omega) (by omega)) kx z1, rall_fr (fun a ha => e a (by omega) (by omega)) hk kx (eLe_rf E) z2, ⟨?_, z3.2⟩, z4, ?_, z6, by omega⟩, zz⟩
  · obtain ⟨⟨vl, vf, e1, cN, cF⟩, dN, dF, sub, cells, cnt, low⟩ := z3.1
    refine ⟨⟨vl, vf, (e _ (by omega) (by omega)).trans e1, chn_cong (fun x hx w hw => ⟨w, (eN x hx).trans hw, rfl⟩) cN, chn_cong (fun x hx w hw => ⟨w, (eN x (sub x hx)).trans hw, rfl⟩) cF⟩, dN, dF, sub, fun x hx => ?_, cnt, fun x hx => Nat.lt_of_lt_of_le (low x hx) hl⟩
    obtain ⟨c0, nm, nu, c3, c4, mb, nx, y1, y2⟩ := cells x hx
    exact ⟨c0, nm, nu, c3, c4, mb, nx, (eN x hx).trans y1, y2⟩
  · obtain ⟨x5, x8, x9, x10, x11, kn, ps, ss, es, ns, fs, ⟨-, a0, a1, a2, a3, a4, a5, -⟩, l⟩ := z5
    exact ⟨x5, x8, x9, x10, x11, kn, ps, ss, es, ns, fs, ⟨rfl, (e _ (by omega) (by omega)).trans a0, (e _ (by omega) (by omega)).trans a1, (e _ (by omega) (by omega)).trans a2, (e _ (by omega) (by omega)).trans a3, (e _ (by omega) (by omega)).trans a4, (e _ (by omega) (by omega)).trans a5, fun _ _ => rfl⟩, l⟩
/-- the other notebook's calls leave it as it is -/
theorem NB_x {b' : Nat} {A A' : Nb} {N' N1 : List Nat} {ff' W' : Nat} (z : NB h b A N ff W) (z' : NB h b' A' N' ff' W') (hb : b + 300 < b' ∨ b' + 300 < b) (dj : ∀ x, x ∈ N → ¬ x ∈ N') (o : ofr b' k h N' h' N1) : NB h' b A N ff W ∧ ∀ x, x ∈ N → ¬ x ∈ N1 := by
  obtain ⟨z1, z2, z3, z4, z5, z6, z7, z8⟩ := z
  obtain ⟨-, -, -, y4, y5, y6, y7, -⟩ := z'
  obtain ⟨o1, o2, o3, -, -, o6⟩ := o
  have e : ∀ a, b ≤ a → a ≤ b + 300 → re_hg h' a = re_hg h a := fun a h1 h2 => o2 a (by omega) (by omega) (fun y => by have := y5 a y; omega)
  have eN : ∀ x, x ∈ N → re_hg h' x = re_hg h x := fun x hx => o2 x (nbx_10 z4 hx).1 (by have := z5 x hx; omega) (dj x hx)
  refine ⟨⟨(e _ (by omega) (by omega)).trans z1, pil_fr (e _ (by omega) (by omega)) o3 z2, brh_fr (e _ (by omega) (by omega)) (fun a t w h1 h2 h3 => o2 a (hg_lt h2) (by omega) (fun y => ?_)) o3 z3, nbx_fr z4 e eN o3 o1, z5, z6, by omega, z8⟩, fun x hx y => ?_⟩
  · obtain ⟨-, w', y9⟩ := nbx_10 y4 y
    rw [h2] at y9
    cases y9
    exact h3 rfl
  · rcases o6 x y with g | g
    · exact dj x hx g
    · have := (nbx_10 z4 hx).1
      omega
end NG
