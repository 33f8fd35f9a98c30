/-! The book as a run starts: what is led to is held. -/
/-- t is a part of v -/
def sbt (t : Tr) : Tr → Prop
  | .leaf => t = .leaf
  | .inner k l u a b => t = .inner k l u a b ∨ sbt t a ∨ sbt t b
theorem sbt_rf (t : Tr) : sbt t t := by
  cases t with
  | leaf => rfl
  | inner k l u a b => exact Or.inl rfl
theorem sbt_ab {k : Nat} {l : Nat × Nat × Int64} {u : Unit} {a b : Tr} : ∀ {v : Tr}, sbt (.inner k l u a b) v → sbt a v ∧ sbt b v
  | .leaf, y => by cases y
  | .inner k' l' u' a' b', y => by
    rcases y with y | y | y
    · cases y
      exact ⟨Or.inr (Or.inl (sbt_rf _)), Or.inr (Or.inr (sbt_rf _))⟩
    · exact ⟨Or.inr (Or.inl (sbt_ab y).1), Or.inr (Or.inl (sbt_ab y).2)⟩
    · exact ⟨Or.inr (Or.inr (sbt_ab y).1), Or.inr (Or.inr (sbt_ab y).2)⟩
/-- a part of what some result keeps -/
def lvs (RR : Nat → Rs) (t : Tr) : Prop := ∃ (i n : Nat) (v : Tr), i < 24 ∧ (n, v) ∈ rK (RR i) ∧ sbt t v
/-- the node stands for it -/
def lvx (h : re_H) (E : Ev) (RR : Nat → Rs) (x : Nat) : Prop := ∃ t, nd h E t (.ref x) ∧ lvs RR t
def eCt (E : Ev) (U : List Nat) : Ev := (E.1, E.2.1, fun x => x ∈ U, E.2.2.2)
theorem nd_px {h : re_H} {E : Ev} {RR : Nat → Rs} {t : Tr} {v : Value} (z : nd h E t v) (y : lvs RR t) : ptx v (lvx h E RR) := by
  rcases nd_R z with rfl | ⟨x, rfl⟩
  · exact Or.inl rfl
  · exact Or.inr ⟨x, rfl, t, z, y⟩
theorem lvx_ch {h : re_H} {E : Ev} {RR : Nat → Rs} {x : Nat} (z : lvx h E RR x) : ∀ w, re_hg h x = some (10, w) → ∀ v : Value, (w[3]? = some v ∨ w[4]? = some v) → ptx v (lvx h E RR) := by
  intro w hw v hv
  obtain ⟨t, z1, i, n, vv, hi, hm, hs⟩ := z
  match t, z1, hs with
  | .leaf, z1, hs => cases z1
  | .inner k l u a b, ⟨x', c0, nm, nu, c3, c4, c5, c6, c7, h1, h2, h3, h4, h0, h5, h6⟩, hs =>
    cases h1
    rw [h4] at hw
    cases hw
    have sab := sbt_ab hs
    rcases hv with hv | hv
    · cases (show c3 = v by simpa using hv)
      rcases h6 with ⟨-, -, -, g4, -⟩ | ⟨-, -, -, -, g5⟩
      · exact Or.inl g4
      · rcases g5 with g5 | g5
        · exact Or.inl g5.1
        · exact nd_px g5.2 ⟨i, n, vv, hi, hm, sab.1⟩
    · cases (show c4 = v by simpa using hv)
      exact nd_px h5 ⟨i, n, vv, hi, hm, sab.2⟩
section CU
variable {h h' : re_H} {E : Ev} {U : List Nat}
theorem nd_cut (e : ∀ x, x ∈ U → re_hg h' x = re_hg h x) (cl : ∀ x, x ∈ U → ∀ w, re_hg h x = some (10, w) → ∀ v : Value, (w[3]? = some v ∨ w[4]? = some v) → ptr v U) (kx : xk h h') : ∀ {t : Tr} {v : Value}, nd h E t v → ptr v U → nd h' (eCt E U) t v := by
  intro t
  induction t with
  | leaf => exact fun {v} z _ => z
  | inner k l u a b iha ihb =>
    intro v z p
    obtain ⟨x, c0, nm, nu, c3, c4, c5, c6, c7, h1, h2, h3, h4, h0, h5, h6⟩ := z
    have hx : x ∈ U := by
      rcases p with p | ⟨y, p, py⟩
      · rw [h1] at p; cases p
      · rw [h1] at p; cases p; exact py
    have p3 := cl x hx _ h4 c3 (Or.inl rfl)
    have p4 := cl x hx _ h4 c4 (Or.inr rfl)
    refine ⟨x, c0, nm, nu, c3, c4, c5, c6, c7, h1, hx, h3, by rw [e x hx]; exact h4, h0, ihb h5 p4, ?_⟩
    rcases h6 with ⟨g1, g2, g3, g4, g5, g6⟩ | ⟨g1, g2, g3, g4, g5⟩
    · exact Or.inl ⟨g1, g2, g3, g4, ex_xk kx g5, g6⟩
    · exact Or.inr ⟨g1, g2, g3, g4, g5.elim Or.inl (fun y => Or.inr ⟨y.1, iha y.2 p3⟩)⟩
theorem rs_cut {r : Nat} {R : Rs} (er : ∀ a, inR r a → re_hg h' a = re_hg h a) (e : ∀ x, x ∈ U → re_hg h' x = re_hg h x) (cl : ∀ x, x ∈ U → ∀ w, re_hg h x = some (10, w) → ∀ v : Value, (w[3]? = some v ∨ w[4]? = some v) → ptr v U) (kx : xk h h') (rp : ∀ fs, re_hg h (r + 3) = some (106, fs) → ∀ v, v ∈ fs → ptr v U) (z : rs h E r R) : rs h' (eCt E U) r R := by
  obtain ⟨ns, nm, fs, ms, z1, z2, z3, z4, z5, z6, z7, z8, z9, z10, z11⟩ := z
  have e' : ∀ k, k ≤ 9 → re_hg h' (r + k) = re_hg h (r + k) := fun k hk => er _ ⟨by omega, by omega⟩
  refine ⟨ns, nm, fs, ms, by rw [show re_hg h' r = re_hg h r from e' 0 (by omega)]; exact z1, by rw [e' 1 (by omega)]; exact z2, by rw [e' 2 (by omega)]; exact z3, by rw [e' 3 (by omega)]; exact z4, ?_, cd_fr (fun a h1 h2 => er a ⟨by omega, by omega⟩) kx z6, by rw [e' 7 (by omega)]; exact z7, by rw [e' 8 (by omega)]; exact z8, by rw [e' 9 (by omega)]; exact z9, z10, z11⟩
  obtain ⟨y1, y2, y3, y4, y5, y6⟩ := z5
  refine ⟨y1, y2, y3, y4, fun i n v hi => ?_, y6⟩
  obtain ⟨w1, w2, nu, f, w3, w4, w5⟩ := y5 i n v hi
  refine ⟨w1, w2, nu, f, w3, w4, w5.elim Or.inl (fun y => Or.inr ⟨y.1, nd_cut e cl kx y.2 (rp fs z4 f (List.mem_of_getElem? w4))⟩)⟩
end CU
