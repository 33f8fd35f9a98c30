/-! The book: what lies in one notebook (its pile and its branches aside). -/
def bfx (h : re_H) (b : Nat) (V : Vr) (I : Nat → Int64) (sd : Int32) : Prop := vr h (b + 2) V ∧ lk h (b + 41) (b + 2) V ∧ re_hg h (b + 48) = some (4, [.ref (b + 49), .int sd]) ∧ re_hg h (b + 49) = some (101, lst 4 (fun i => .long (I i))) ∧ shc h (b + 298) (b + 2) (b + 41) (b + 292) (b + 50) 0 ∧ shc h (b + 299) (b + 2) (b + 41) (b + 292) (b + 50) 12
def bk (h : re_H) (b : Nat) (E : Ev) (V : Vr) (I : Nat → Int64) (sd : Int32) (RR : Nat → Rs) (N F : List Nat) (ho la ff : Nat) : Prop := bfx h b V I sd ∧ rall h E (b + 50) RR ∧ sth h E (b + 291) (b + 50) N F ho la ∧ fno E ff ∧ mcz h (b + 292) (b + 291) (b + 48) ff ∧ (∀ x, x ∈ N → x < b ∨ b + 300 < x) ∧ b + 300 < h.1
section BK
variable {h h' : re_H} {b rid : Nat} {E E' : Ev} {V : Vr} {I : Nat → Int64} {sd : Int32} {RR : Nat → Rs} {N F N' F' : List Nat} {ho la ff ho' la' ff' : Nat}
theorem bfx_fr (e : ∀ a, (b + 2 ≤ a ∧ a ≤ b + 49) ∨ a = b + 298 ∨ a = b + 299 → re_hg h' a = re_hg h a) (kx : xk h h') (z : bfx h b V I sd) : bfx h' b V I sd := by
  obtain ⟨z1, ⟨F0, y1, y2⟩, z3, z4, z5, z6⟩ := z
  refine ⟨vr_fr (fun a ha => e a (Or.inl (by unfold inV at ha; omega))) kx z1, ⟨F0, ⟨?_, fun j h1 h6 => ?_⟩, y2⟩, ?_, ?_, ?_, ?_⟩
  · rw [e _ (Or.inl (by omega))]; exact y1.1
  · rw [e _ (Or.inl (by omega))]; exact y1.2 j h1 h6
  · rw [e _ (Or.inl (by omega))]; exact z3
  · rw [e _ (Or.inl (by omega))]; exact z4
  · unfold shc; rw [e _ (Or.inr (Or.inl rfl))]; exact z5
  · unfold shc; rw [e _ (Or.inr (Or.inr rfl))]; exact z6
theorem rall_fr {ra : Nat} (e : ∀ a, ra ≤ a ∧ a ≤ ra + 240 → re_hg h' a = re_hg h a) (hk : ∀ x, E.2.2.1 x → re_hg h' x = re_hg h x) (kx : xk h h') (le : eLe E E') (z : rall h E ra RR) : rall h' E' ra RR :=
  ⟨by rw [e _ ⟨by omega, by omega⟩]; exact z.1, fun i hi => rs_fr (fun a ha => e a (by unfold inR at ha; omega)) hk kx le (z.2 i hi)⟩
/-- behind a piece of a run -/
theorem bk_rn (z : bk h b E V I sd RR N F ho la ff) (r : rn (b + 291) (b + 292) rid h E N h' E' N') (st' : sth h' E' (b + 291) (b + 50) N' F' ho' la') (f' : fno E' ff') (zm' : mcz h' (b + 292) (b + 291) (b + 48) ff') : bk h' b E' V I sd RR N' F' ho' la' ff' := by
  obtain ⟨z1, z2, z3, z4, z5, z6, z7⟩ := z
  have e : ∀ a, b ≤ a → a ≤ b + 300 → ¬ a = b + 291 → ¬ inM (b + 292) a → re_hg h' a = re_hg h a := fun a h1 h2 h3 h4 => r.2.1 a (by omega) h3 h4 (Or.inr (fun y => by have := z6 a y; omega))
  have kp' := rn_nd z3 z5 r
  refine ⟨bfx_fr (fun a ha => e a (by omega) (by omega) (by omega) (by unfold inM; omega)) r.2.2.1 z1, rall_fr (fun a ha => e a (by omega) (by omega) (by omega) (by unfold inM; omega)) kp'.1 r.2.2.1 r.2.2.2.1 z2, st', f', zm', fun x hx => ?_, Nat.lt_of_lt_of_le z7 r.1⟩
  rcases r.2.2.2.2.2.2.1 x hx with y | y
  · exact z6 x y
  · exact Or.inr (by omega)
/-- a result was written -/
theorem bk_rs {i : Nat} {R' : Rs} (hi : i < 24) (z : bk h b E V I sd RR N F ho la ff) (mm : mo (inR (b + 50 + 1 + 10 * i)) 0 h h') (zr : rs h' E (b + 50 + 1 + 10 * i) R') : bk h' b E V I sd (fun j => if j = i then R' else RR j) N F ho la ff := by
  obtain ⟨z1, z2, z3, z4, z5, z6, z7⟩ := z
  have e : ∀ a, a < h.1 → ¬ inR (b + 50 + 1 + 10 * i) a → re_hg h' a = re_hg h a := fun a ha hn => mm.1.2 a ha hn
  have sz := mo_sz mm
  have nN : ∀ x, x ∈ N → ¬ inR (b + 50 + 1 + 10 * i) x := fun x hx y => by
    have := z6 x hx
    unfold inR at y
    omega
  have hk : ∀ x, E.2.2.1 x → re_hg h' x = re_hg h x := fun x hx => e x (z3.1.2.2.2.2.2.2 x (z3.2 x hx).1) (nN x (z3.2 x hx).1)
  refine ⟨bfx_fr (fun a ha => e a (by omega) (by unfold inR; omega)) mm.2.1 z1, ⟨?_, fun j hj => ?_⟩, ⟨?_, z3.2⟩, z4, ?_, z6, by omega⟩
  · rw [e _ (by omega) (by unfold inR; omega)]; exact z2.1
  · rcases Nat.decEq j i with hne | rfl
    · show rs h' E (b + 50 + 1 + 10 * j) (if j = i then R' else RR j)
      rw [if_neg hne]
      exact rs_fr (fun a ha => e a (by unfold inR at ha; omega) (by unfold inR at ha ⊢; omega)) hk mm.2.1 (eLe_rf E) (z2.2 j hj)
    · show rs h' E (b + 50 + 1 + 10 * j) (if j = j then R' else RR j)
      rw [if_pos rfl]; exact zr
  · obtain ⟨⟨vl, vf, e1, cN, cF⟩, dN, dF, sub, cells, cnt, low⟩ := z3.1
    have es : re_hg h' (b + 291) = re_hg h (b + 291) := e _ (by omega) (by unfold inR; omega)
    have en' : ∀ x, x ∈ N → re_hg h' x = re_hg h x := fun x hx => e x (low x hx) (nN x hx)
    refine ⟨⟨vl, vf, es.trans e1, chn_cong (fun x hx w hw => ⟨w, (en' x hx).trans hw, rfl⟩) cN, chn_cong (fun x hx w hw => ⟨w, (en' x (sub x hx)).trans hw, rfl⟩) cF⟩, dN, dF, sub, fun x hx => ?_, cnt, fun x hx => by rw [sz]; exact low x hx⟩
    obtain ⟨c0, nm, nu, c3, c4, mb, nx, y1, y2⟩ := cells x hx
    exact ⟨c0, nm, nu, c3, c4, mb, nx, (en' x hx).trans y1, y2⟩
  · obtain ⟨x5, x8, x9, x10, x11, kn, ps, ss, es, ns, fs, ⟨-, a0, a1, a2, a3, a4, a5, -⟩, l⟩ := z5
    have em : ∀ k, k ≤ 5 → re_hg h' (b + 292 + k) = re_hg h (b + 292 + k) := fun k hk => e _ (by omega) (by unfold inR; omega)
    exact ⟨x5, x8, x9, x10, x11, kn, ps, ss, es, ns, fs, ⟨rfl, (em 0 (by omega)).trans a0, (em 1 (by omega)).trans a1, (em 2 (by omega)).trans a2, (em 3 (by omega)).trans a3, (em 4 (by omega)).trans a4, (em 5 (by omega)).trans a5, fun _ _ => rfl⟩, l⟩
end BK
