/-! Machine.start on a book. -/
section CS
variable {SC : List Value} {d q : Nat} {h : re_H} {Q : Nat → Value → re_H → Prop} {b : Nat} {V : Vr} {RR : Nat → Rs} {E : Ev} {I : Nat → Int64} {sd : Int32} {N F : List Nat} {ho la ff : Nat}
theorem c449b {c : Nat} (z : bk h b E V I sd RR N F ho la ff) (hN : N.length < 1000000) (K : ∀ (h' : re_H) (E' : Ev) (F' : List Nat) (ho' la' : Nat), bk h' b E' V I sd RR N F' ho' la' ff → mcs h' (b + 292) (b + 291) (b + 48) c 0 0 .null ff → h'.1 = h.1 → (∀ a, ¬ inB b a → ¬ a ∈ N → re_hg h' a = re_hg h a) → xk h h' → ho' < la' + 500 → ((E' = E ∧ F' = F ∧ ho' = ho ∧ la' = la) ∨ ∃ U : List Nat, E' = eCt E U ∧ ho' = 0 ∧ la' = (N.filter (fun x => decide (x ∈ U))).length ∧ ∀ x, x ∈ U → lvx h E RR x) → Q 0 .null h') : wp SC 449 (d + 2) q 0 [(0, .ref (b + 292)), (1, .int (i32 c))] [] h Q := by
  have z0 := z
  obtain ⟨z1, z2, z3, z4, z5, z6, z7⟩ := z
  obtain ⟨rf, hrf'⟩ : ∃ rf : Nat → List Value, ∀ i, rf i = ((re_hg h (b + 50 + 1 + 10 * i + 3)).map (fun p => p.2)).getD [] := ⟨_, fun _ => rfl⟩
  have hrf : ∀ i fs, re_hg h (b + 50 + 1 + 10 * i + 3) = some (106, fs) → rf i = fs := fun i fs e => by rw [hrf', e]; rfl
  have rt : roots h (b + 50) rf := ⟨z2.1, fun i hi => by
    obtain ⟨ns, nm, fs, ms, w1, w2, w3, w4, w5, -⟩ := z2.2 i hi
    rw [hrf i fs w4]
    exact ⟨⟨_, w1, rfl⟩, w4, w5.2.2.2.1⟩⟩
  have hrx : ∀ (i : Nat) (v : Value), i < 24 → v ∈ rf i → ptx v (lvx h E RR) := fun i v hi hv => by
    obtain ⟨ns, nm, fs, ms, w1, w2, w3, w4, w5, -⟩ := z2.2 i hi
    rw [hrf i fs w4] at hv
    obtain ⟨i', hi'⟩ := List.getElem?_of_mem hv
    have hl4 : i' < 4 := by have := (List.getElem?_eq_some_iff.mp hi').1; have := w5.2.2.2.1; omega
    rcases Nat.lt_or_ge i' (rK (RR i)).length with g | g
    · obtain ⟨⟨n, vv⟩, hK⟩ := getl (C := rK (RR i)) g
      obtain ⟨y1, y2, nu, f, y3, y4, y5⟩ := w5.2.2.2.2.1 i' n vv hK
      rw [hi'] at y4
      cases y4
      rcases y5 with y5 | y5
      · exact Or.inl y5.1
      · exact nd_px y5.2 ⟨i, n, vv, hi, List.mem_of_getElem? hK, sbt_rf _⟩
    · have y := w5.2.2.2.2.2 i' g hl4
      rw [hi'] at y
      cases y
      exact Or.inl rfl
  have hel : ∀ x, lvx h E RR x → E.2.2.1 x := fun x y => by
    obtain ⟨t, zt, -⟩ := y
    exact (nd_at zt).1
  have hX : ∀ x, lvx h E RR x → x ∈ N ∧ ¬ x ∈ F ∧ ∀ w, re_hg h x = some (10, w) → ∀ v : Value, (w[3]? = some v ∨ w[4]? = some v) → ptx v (lvx h E RR) := fun x y => ⟨(z3.2 x (hel x y)).1, (z3.2 x (hel x y)).2, lvx_ch y⟩
  have nM : ∀ a, ¬ inB b a → ¬ inM (b + 292) a := fun a h1 y => h1 (by unfold inM at y; unfold inB; omega)
  refine c449 z5 z3.1 hN rt hrx hX (fun g h' zm a => ?_) (fun h1 U g1 g2 g3 g4 g5 g6 g7 h' zm a => ?_)
  · have r := mw_rn (rid := 0) z3 a
    exact K h' E F ho la (bk_rn z0 r.2 r.1 z4 (mcs_z zm)) zm a.1 (fun x hx _ => a.2.1 x (nM x hx)) (mw_xk a) g (Or.inl ⟨rfl, rfl, rfl, rfl⟩)
  · obtain ⟨⟨vl', vf', es', -⟩, -⟩ := id z3.1
    have e : ∀ x, ¬ x = b + 291 → ¬ inM (b + 292) x → ¬ x ∈ N → re_hg h' x = re_hg h x := fun x h2 h3 h4 => (a.2.1 x h3).trans (g4 x h2 h4)
    have eU : ∀ x, x ∈ U → re_hg h' x = re_hg h x := fun x hx => by
      obtain ⟨w, hw⟩ := sth_hld z3 x (hel x (g5 x hx))
      exact (a.2.1 x (mcz_no z5 hw (by omega) (by omega))).trans (g3 x hx)
    have kx : xk h h' := fun x w hw => by
      rw [e x (fun y => ?_) (mcz_no z5 hw (by omega) (by omega)) (fun y => sto_ne z3.1 y hw (by omega) rfl)]
      · exact hw
      · subst y
        rw [hw] at es'
        cases es'
    have eb : ∀ x, b ≤ x → x ≤ b + 300 → ¬ x = b + 291 → ¬ inM (b + 292) x → re_hg h' x = re_hg h x := fun x h2 h3 h4 h5 => e x h4 h5 (fun y => by have := z6 x y; omega)
    refine K h' (eCt E U) _ 0 _ ⟨bfx_fr (fun x hx => eb x (by omega) (by omega) (by omega) (by unfold inM; omega)) kx z1, ⟨?_, fun i hi => ?_⟩, ⟨sto_fr (fun x t w hw ht => a.2.2 x t w hw (by omega) (by omega)) (Nat.le_of_eq a.1.symm) g1, fun x hx => ?_⟩, z4, mcs_z zm, z6, by rw [a.1, g2]; exact z7⟩ zm (a.1.trans g2) (fun x hx hxN => ?_) kx (by omega) (Or.inr ⟨U, rfl, rfl, rfl, g5⟩)
    · rw [eb _ (by omega) (by omega) (by omega) (by unfold inM; omega)]; exact z2.1
    · exact rs_cut (fun x hx => eb x (by unfold inR at hx; omega) (by unfold inR at hx; omega) (by unfold inR at hx; omega) (by unfold inR at hx; unfold inM; omega)) eU g7 kx (fun fs hf v hv => g6 i v hi (by rw [hrf i fs hf]; exact hv)) (z2.2 i hi)
    · have hx : x ∈ U := hx
      refine ⟨(z3.2 x (hel x (g5 x hx))).1, fun y => ?_⟩
      have := (List.mem_filter.mp (List.mem_reverse.mp y)).2
      simp [hx] at this
    · exact e x (fun y => hx (by rw [y]; unfold inB; omega)) (nM x hx) hxN
end CS
