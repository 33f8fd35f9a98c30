/-! Store: marking and sweeping. -/
/-- while marking: U is marked, P waits; all else is as in h0 -/
def mks (h0 h : re_H) (s rb : Nat) (N U P : List Nat) (vl vf : Value) (ho la : Nat) : Prop := h.1 = h0.1 ∧ (∃ vp : Value, re_hg h s = some (6, [.ref rb, vl, vf, vp, .int (i32 ho), .int (i32 la)]) ∧ chn h 7 P vp) ∧ U.Nodup ∧ P.Nodup ∧ (∀ x, x ∈ P → x ∈ U) ∧ (∀ x, x ∈ U → x ∈ N) ∧
  (∀ x, x ∈ N → ∃ (c0 : Value) (nm : Int32) (nu : Int64) (c3 c4 mb nx nx' : Value), re_hg h0 x = some (10, [c0, .int nm, .long nu, c3, c4, .int 0, mb, nx]) ∧ re_hg h x = some (10, [c0, .int nm, .long nu, c3, c4, .int (ib (decide (x ∈ U))), mb, nx']) ∧ (¬ x ∈ P → nx' = nx)) ∧ ∀ a, ¬ a = s → ¬ a ∈ N → re_hg h a = re_hg h0 a
theorem nodup_rev {l : List Nat} (h : l.Nodup) : l.reverse.Nodup := List.pairwise_reverse.mpr (List.Pairwise.imp (fun y z => y z.symm) h)
theorem part_len (p : Nat → Bool) : ∀ l : List Nat, l.length = (l.filter p).length + (l.filter (fun x => !p x)).length
  | [] => rfl
  | x :: r => by
    have ih := part_len p r
    rw [List.filter_cons, List.filter_cons]
    cases h : p x
    · simp; omega
    · simp; omega
section TD
variable {SC : List Value} {d q : Nat} {Q : Nat → Value → re_H → Prop} {s rb : Nat} {N F : List Nat} {vl vf : Value} {ho la : Nat} {h0 : re_H}
/-- pointers of a node lead to nothing, or into U -/
def ptr (v : Value) (U : List Nat) : Prop := v = .null ∨ ∃ y : Nat, v = .ref y ∧ y ∈ U
theorem c386 {h : re_H} {U P : List Nat} {v : Value} (m : mks h0 h s rb N U P vl vf ho la) (hs : ¬ s ∈ N) (hv : v = .null ∨ ∃ y : Nat, v = .ref y ∧ y ∈ N) (hnx : ∀ x, x ∈ N → v = .ref x → ¬ x ∈ U → ∃ w, re_hg h0 x = some (10, w) ∧ w[7]? = some .null) (K : ∀ h' U' P', mks h0 h' s rb N U' P' vl vf ho la → (∀ x, x ∈ U → x ∈ U') → ptr v U' → (∀ x, x ∈ U' → x ∈ U ∨ v = .ref x) → (∀ x, x ∈ P → x ∈ P') → (∀ x, x ∈ P' → x ∈ P ∨ ¬ x ∈ U) → (∀ x, x ∈ U' → x ∈ U ∨ x ∈ P') → U'.length + P.length = U.length + P'.length → Q 0 .null h') : wp SC 386 d q 0 [(0, .ref s), (1, v)] [] h Q := by
  have m0 := m
  obtain ⟨hsz, ⟨vp, e, cP⟩, dU, dP, pu, un, cells, oth⟩ := m
  rcases hv with rfl | ⟨y, rfl, hy⟩
  · exact B386_0 (Or.inl rfl) (fun _ => B386_29 (K h U P m0 (fun _ z => z) (Or.inl rfl) (fun x z => Or.inl z) (fun _ z => z) (fun x z => Or.inl z) (fun x z => Or.inl z) rfl)) (fun b hb => by cases hb)
  · obtain ⟨c0, nm, nu, c3, c4, mb, nx, nx', g1, g2, g3⟩ := cells y hy
    refine B386_0 (Or.inr ⟨y, rfl⟩) (fun hb => by cases hb) (fun b hb => ?_)
    cases hb
    refine B386_4 ⟨_, g2, rfl⟩ (fun g => ?_) (fun g => ?_)
    · have hyU : y ∈ U := Classical.not_not.mp (fun z => g (ib_0.mpr (decide_eq_false z)))
      exact B386_29 (K h U P m0 (fun _ z => z) (Or.inr ⟨y, rfl, hyU⟩) (fun x z => Or.inl z) (fun _ z => z) (fun x z => Or.inl z) (fun x z => Or.inl z) rfl)
    · have hyU : ¬ y ∈ U := of_decide_eq_false (ib_0.mp g)
      have hyP : ¬ y ∈ P := fun z => hyU (pu y z)
      have hys : ¬ y = s := fun z => hs (z ▸ hy)
      have t0 : tw h s y [.ref rb, vl, vf, vp, .int (i32 ho), .int (i32 la)] [c0, .int nm, .long nu, c3, c4, .int (ib (decide (y ∈ U))), mb, nx'] h := ⟨rfl, e, g2, fun _ _ _ => rfl⟩
      refine B386_11 g2 (by simp) ?_
      have t1 := tw_x t0 5 (.int (i32 1))
      refine B386_16 (chn_R cP) ⟨_, t1.2.1, rfl⟩ t1.2.2.1 (by simp) ?_
      have t2 := tw_x t1 7 vp
      refine B386_24 t2.2.1 (by simp) (B386_29 ?_)
      have t3 := tw_s t2 3 (.ref y)
      refine K _ (y :: U) (y :: P) ⟨t3.1.trans hsz, ⟨.ref y, t3.2.1, rfl, _, vp, t3.2.2.1, rfl, chn_cong (fun x hx w hw => ⟨w, ?_, rfl⟩) cP⟩, List.nodup_cons.mpr ⟨hyU, dU⟩, List.nodup_cons.mpr ⟨hyP, dP⟩, fun x hx => ?_, fun x hx => ?_, fun x hx => ?_, fun a h1 h2 => ?_⟩ (fun x z => List.mem_cons_of_mem _ z) (Or.inr ⟨y, rfl, List.mem_cons_self⟩) (fun x z => (List.mem_cons.mp z).elim (fun w => Or.inr (by rw [w])) Or.inl) (fun x z => List.mem_cons_of_mem _ z) (fun x z => (List.mem_cons.mp z).elim (fun w => Or.inr (w ▸ hyU)) Or.inl) (fun x z => (List.mem_cons.mp z).elim (fun w => Or.inr (by rw [w]; exact List.mem_cons_self)) Or.inl) (by simp; omega)
      · have hxy : ¬ x = y := fun z => hyP (z ▸ hx)
        have hxs : ¬ x = s := fun z => hs (z ▸ un x (pu x hx))
        rw [t3.2.2.2 x hxs hxy]
        exact hw
      · exact (List.mem_cons.mp hx).elim (fun w => by rw [w]; exact List.mem_cons_self) (fun w => List.mem_cons_of_mem _ (pu x w))
      · exact (List.mem_cons.mp hx).elim (fun w => by rw [w]; exact hy) (un x)
      · rcases Nat.decEq x y with hne | rfl
        · obtain ⟨k0, k1, k2, k3, k4, k5, k6, k7, f1, f2, f3⟩ := cells x hx
          have hxs : ¬ x = s := fun z => hs (z ▸ hx)
          refine ⟨k0, k1, k2, k3, k4, k5, k6, k7, f1, ?_, fun z => f3 (fun w => z (List.mem_cons_of_mem _ w))⟩
          rw [t3.2.2.2 x hxs hne, f2]
          have : decide (x ∈ y :: U) = decide (x ∈ U) := by simp [hne]
          rw [this]
        · have : decide (x ∈ x :: U) = true := by simp
          refine ⟨c0, nm, nu, c3, c4, mb, nx, vp, g1, ?_, fun z => absurd List.mem_cons_self z⟩
          rw [this]
          exact t3.2.2.1
      · rw [t3.2.2.2 a h1 (fun z => h2 (z ▸ hy))]
        exact oth a h1 h2
/-- the sweep -/
theorem c387 {h : re_H} {U : List Nat} (m : mks h0 h s rb N U [] vl vf ho la) (cN : chn h0 6 N vl) (dN : N.Nodup) (hs : ¬ s ∈ N) (ty : ∀ x, x ∈ N → ∀ w, re_hg h0 x = some (10, w) → ∀ (v : Value), (w[0]? = some v ∨ w[3]? = some v ∨ w[4]? = some v) → re_R v) (un : ∀ x, x ∈ U → ∃ w, re_hg h0 x = some (10, w) ∧ w[7]? = some .null) (low : ∀ x, x ∈ N → x < h0.1)
    (K : ∀ h', sto h' s rb N (N.filter (fun x => !decide (x ∈ U))).reverse 0 (N.filter (fun x => decide (x ∈ U))).length → h'.1 = h0.1 → (∀ x, x ∈ U → re_hg h' x = re_hg h0 x) → (∀ a, ¬ a = s → ¬ a ∈ N → re_hg h' a = re_hg h0 a) → Q 0 .null h') : wp SC 387 d q 0 [(0, .ref s)] [] h Q := by
  obtain ⟨hsz, ⟨vp, e, cP⟩, dU, dP, pu, un', cells, oth⟩ := m
  cases (show vp = .null from cP)
  -- one node after the other
  have loop : ∀ (R D : List Nat), N = D ++ R → ∀ (h1 : re_H) (vr vfr : Value), h1.1 = h0.1 → re_hg h1 s = some (6, [.ref rb, vl, vfr, .null, .int (i32 0), .int (i32 (D.filter (fun x => decide (x ∈ U))).length)]) → chn h1 6 R vr → chn h1 6 N vl → chn h1 7 (D.filter (fun x => !decide (x ∈ U))).reverse vfr → (∀ x, x ∈ R → re_hg h1 x = re_hg h x) → (∀ x, x ∈ D → x ∈ U → re_hg h1 x = re_hg h0 x) → (∀ x, x ∈ D → ¬ x ∈ U → ∃ (nm : Int32) (nu : Int64) (mb nx : Value), re_hg h1 x = some (10, [.null, .int nm, .long nu, .null, .null, .int 0, mb, nx])) → (∀ a, ¬ a = s → ¬ a ∈ N → re_hg h1 a = re_hg h0 a) → wp SC 387 d q 20 [(0, .ref s), (1, vr)] [] h1 Q := by
    intro R
    induction R with
    | nil =>
      intro D hD h1 vr vfr z0 z1 z2 z3 z4 z5 z6 z7 z8
      rw [List.append_nil] at hD
      subst hD
      cases (show vr = .null from z2)
      refine B387_20 (Or.inl rfl) (fun _ => B387_85 (K h1 ⟨⟨vl, vfr, z1, z3, z4⟩, dN, ?_, fun x hx => ?_, fun x hx => ?_, ?_, fun x hx => by rw [z0]; exact low x hx⟩ z0 (fun x hx => z6 x (un' x hx) hx) z8)) (fun b hb => by cases hb)
      · exact nodup_rev (List.Pairwise.filter _ dN)
      · exact (List.mem_filter.mp (List.mem_reverse.mp hx)).1
      · by_cases hU : x ∈ U
        · obtain ⟨c0, nm, nu, c3, c4, mb, nx, nx', g1, -⟩ := cells x hx
          obtain ⟨w, w1, w2⟩ := un x hU
          rw [g1] at w1
          cases w1
          refine ⟨c0, nm, nu, c3, c4, mb, nx, by rw [z6 x hx hU]; exact g1, ty x hx _ g1 _ (Or.inl rfl), ty x hx _ g1 _ (Or.inr (Or.inl rfl)), ty x hx _ g1 _ (Or.inr (Or.inr rfl)), fun y => ?_, fun _ => by simpa using w2⟩
          have := (List.mem_filter.mp (List.mem_reverse.mp y)).2
          simp [hU] at this
        · obtain ⟨nm, nu, mb, nx, g⟩ := z7 x hx hU
          refine ⟨.null, nm, nu, .null, .null, mb, nx, g, Or.inl rfl, Or.inl rfl, Or.inl rfl, fun _ => rfl, fun y => ?_⟩
          exact absurd (List.mem_reverse.mpr (List.mem_filter.mpr ⟨hx, by simp [hU]⟩)) y
      · rw [List.length_reverse]
        have := part_len (fun x => decide (x ∈ U)) N
        omega
    | cons x R ih =>
      intro D hD h1 vr vfr z0 z1 z2 z3 z4 z5 z6 z7 z8
      obtain ⟨rfl, w, u, y1, y2, y3⟩ := z2
      have hxN : x ∈ N := by rw [hD]; simp
      have hN' : N = (D ++ [x]) ++ R := by rw [hD]; simp
      have hnd : x ∉ D ∧ x ∉ R := by
        rw [hD] at dN
        have := List.nodup_append.mp dN
        exact ⟨fun y => this.2.2 x y x List.mem_cons_self rfl, (List.nodup_cons.mp this.2.1).1⟩
      obtain ⟨c0, nm, nu, c3, c4, mb, nx, nx', g1, g2, g3⟩ := cells x hxN
      have g2' : re_hg h1 x = _ := (z5 x List.mem_cons_self).trans g2
      rw [y1] at g2'
      cases g2'
      have hu : mb = u := by simpa using y2
      subst hu
      have hxs : ¬ x = s := fun z => hs (z ▸ hxN)
      have hsN : ∀ y, y ∈ N → ¬ y = s := fun y hy z => hs (z ▸ hy)
      have rmb := chn_R y3
      have t0 : tw h1 s x [.ref rb, vl, vfr, .null, .int (i32 0), .int (i32 (D.filter (fun x => decide (x ∈ U))).length)] [c0, .int nm, .long nu, c3, c4, .int (ib (decide (x ∈ U))), mb, nx'] h1 := ⟨rfl, z1, y1, fun _ _ _ => rfl⟩
      refine B387_20 (Or.inr ⟨x, rfl⟩) (fun hb => by cases hb) (fun b hb => ?_)
      cases hb
      refine B387_24 ⟨_, y1, rfl⟩ (fun g => ?_) (fun g => ?_)
      · -- free
        have hU : ¬ x ∈ U := of_decide_eq_false (ib_0.mp g)
        refine B387_49 y1 (by simp) ?_
        have t1 := tw_x t0 0 .null
        refine B387_54 t1.2.2.1 (by simp) ?_
        have t2 := tw_x t1 3 .null
        refine B387_59 t2.2.2.1 (by simp) ?_
        have t3 := tw_x t2 4 .null
        refine B387_64 (chn_R z4) ⟨_, t3.2.1, rfl⟩ t3.2.2.1 (by simp) ?_
        have t4 := tw_x t3 7 vfr
        refine B387_72 t4.2.1 (by simp) ?_
        have t5 := tw_s t4 2 (.ref x)
        refine B387_77 rmb ⟨_, t5.2.2.1, rfl⟩ ?_
        have hd : decide (x ∈ U) = false := decide_eq_false hU
        have e1 : (D ++ [x]).filter (fun x => decide (x ∈ U)) = D.filter (fun x => decide (x ∈ U)) := by rw [List.filter_append]; simp [hU]
        have e2 : ((D ++ [x]).filter (fun x => !decide (x ∈ U))).reverse = x :: (D.filter (fun x => !decide (x ∈ U))).reverse := by rw [List.filter_append]; simp [hU]
        refine ih (D ++ [x]) hN' _ mb (.ref x) (t5.1.trans z0) (by rw [e1]; exact t5.2.1) (chn_cong (fun y hy w hw => ⟨w, ?_, rfl⟩) y3) (chn_cong (fun y hy w hw => ?_) z3) ?_ (fun y hy => ?_) (fun y hy hyU => ?_) (fun y hy hyU => ?_) (fun a h1 h2 => ?_)
        · rw [t5.2.2.2 y (hsN y (by rw [hD]; simp [hy])) (fun z => hnd.2 (z ▸ hy))]; exact hw
        · rcases Nat.decEq y x with hne | rfl
          · exact ⟨w, by rw [t5.2.2.2 y (hsN y hy) hne]; exact hw, rfl⟩
          · rw [y1] at hw
            cases hw
            exact ⟨_, t5.2.2.1, rfl⟩
        · rw [e2]
          refine ⟨rfl, _, vfr, t5.2.2.1, rfl, chn_cong (fun y hy w hw => ⟨w, ?_, rfl⟩) z4⟩
          have hyD := (List.mem_filter.mp (List.mem_reverse.mp hy)).1
          rw [t5.2.2.2 y (hsN y (by rw [hD]; simp [hyD])) (fun z => hnd.1 (z ▸ hyD))]; exact hw
        · rw [t5.2.2.2 y (hsN y (by rw [hD]; simp [hy])) (fun z => hnd.2 (z ▸ hy))]
          exact z5 y (List.mem_cons_of_mem _ hy)
        · rcases List.mem_append.mp hy with hy | hy
          · rw [t5.2.2.2 y (hsN y (by rw [hD]; simp [hy])) (fun z => hnd.1 (z ▸ hy))]
            exact z6 y hy hyU
          · cases List.mem_singleton.mp hy
            exact absurd hyU hU
        · rcases List.mem_append.mp hy with hy | hy
          · rw [t5.2.2.2 y (hsN y (by rw [hD]; simp [hy])) (fun z => hnd.1 (z ▸ hy))]
            exact z7 y hy hyU
          · cases List.mem_singleton.mp hy
            exact ⟨nm, nu, mb, vfr, t5.2.2.1.trans (by rw [hd]; rfl)⟩
        · rw [t5.2.2.2 a h1 (fun z => h2 (z ▸ hxN))]
          exact z8 a h1 h2
      · -- marked
        have hU : x ∈ U := Classical.not_not.mp (fun z => g (ib_0.mpr (decide_eq_false z)))
        have hd : decide (x ∈ U) = true := decide_eq_true hU
        refine B387_31 y1 (by simp) ?_
        have t1 := tw_x t0 5 (.int (i32 0))
        refine B387_36 ⟨_, t1.2.1, rfl⟩ t1.2.1 (by simp) (B387_46 ?_)
        rw [i3_add]
        have t5 := tw_s t1 5 (.int (i32 ((D.filter (fun x => decide (x ∈ U))).length + 1)))
        refine B387_77 rmb ⟨_, t5.2.2.1, rfl⟩ ?_
        have e1 : ((D ++ [x]).filter (fun x => decide (x ∈ U))).length = (D.filter (fun x => decide (x ∈ U))).length + 1 := by rw [List.filter_append]; simp [hU]
        have e2 : ((D ++ [x]).filter (fun x => !decide (x ∈ U))).reverse = (D.filter (fun x => !decide (x ∈ U))).reverse := by rw [List.filter_append]; simp [hU]
        have hnx : nx' = nx := g3 (fun y => by cases y)
        subst hnx
        refine ih (D ++ [x]) hN' _ mb vfr (t5.1.trans z0) (by rw [e1]; exact t5.2.1) (chn_cong (fun y hy w hw => ⟨w, ?_, rfl⟩) y3) (chn_cong (fun y hy w hw => ?_) z3) ?_ (fun y hy => ?_) (fun y hy hyU => ?_) (fun y hy hyU => ?_) (fun a h1 h2 => ?_)
        · rw [t5.2.2.2 y (hsN y (by rw [hD]; simp [hy])) (fun z => hnd.2 (z ▸ hy))]; exact hw
        · rcases Nat.decEq y x with hne | rfl
          · exact ⟨w, by rw [t5.2.2.2 y (hsN y hy) hne]; exact hw, rfl⟩
          · rw [y1] at hw
            cases hw
            exact ⟨_, t5.2.2.1, rfl⟩
        · rw [e2]
          refine chn_cong (fun y hy w hw => ⟨w, ?_, rfl⟩) z4
          have hyD := (List.mem_filter.mp (List.mem_reverse.mp hy)).1
          rw [t5.2.2.2 y (hsN y (by rw [hD]; simp [hyD])) (fun z => hnd.1 (z ▸ hyD))]; exact hw
        · rw [t5.2.2.2 y (hsN y (by rw [hD]; simp [hy])) (fun z => hnd.2 (z ▸ hy))]
          exact z5 y (List.mem_cons_of_mem _ hy)
        · rcases List.mem_append.mp hy with hy | hy
          · rw [t5.2.2.2 y (hsN y (by rw [hD]; simp [hy])) (fun z => hnd.1 (z ▸ hy))]
            exact z6 y hy hyU
          · cases List.mem_singleton.mp hy
            rw [g1]
            exact t5.2.2.1
        · rcases List.mem_append.mp hy with hy | hy
          · rw [t5.2.2.2 y (hsN y (by rw [hD]; simp [hy])) (fun z => hnd.1 (z ▸ hy))]
            exact z7 y hy hyU
          · cases List.mem_singleton.mp hy
            exact absurd hU hyU
        · rw [t5.2.2.2 a h1 (fun z => h2 (z ▸ hxN))]
          exact z8 a h1 h2
  refine B387_0 e (by simp) ?_
  obtain ⟨h1, hh1⟩ : ∃ h1, h1 = re_hw h s (6, ([.ref rb, vl, vf, .null, .int (i32 ho), .int (i32 la)] : List Value).set 2 .null) := ⟨_, rfl⟩
  have e1 : re_hg h1 s = some (6, [.ref rb, vl, .null, .null, .int (i32 ho), .int (i32 la)]) := by rw [hh1]; exact hw_s (hg_lt e)
  have o1 : ∀ a, ¬ a = s → re_hg h1 a = re_hg h a := fun a ha => by rw [hh1]; exact hw_n ha
  have s1 : h1.1 = h.1 := by rw [hh1]; rfl
  rw [← hh1]
  refine B387_5 e1 (by simp) ?_
  obtain ⟨h2, hh2⟩ : ∃ h2, h2 = re_hw h1 s (6, ([.ref rb, vl, .null, .null, .int (i32 ho), .int (i32 la)] : List Value).set 4 (.int (i32 0))) := ⟨_, rfl⟩
  have e2 : re_hg h2 s = some (6, [.ref rb, vl, .null, .null, .int (i32 0), .int (i32 la)]) := by rw [hh2]; exact hw_s (hg_lt e1)
  have o2 : ∀ a, ¬ a = s → re_hg h2 a = re_hg h a := fun a ha => by rw [hh2]; exact (hw_n ha).trans (o1 a ha)
  have s2 : h2.1 = h.1 := by rw [hh2]; exact s1
  rw [← hh2]
  refine B387_10 e2 (by simp) ?_
  obtain ⟨h3, hh3⟩ : ∃ h3, h3 = re_hw h2 s (6, ([.ref rb, vl, .null, .null, .int (i32 0), .int (i32 la)] : List Value).set 5 (.int (i32 0))) := ⟨_, rfl⟩
  have e3 : re_hg h3 s = some (6, [.ref rb, vl, .null, .null, .int (i32 0), .int (i32 0)]) := by rw [hh3]; exact hw_s (hg_lt e2)
  have o3 : ∀ a, ¬ a = s → re_hg h3 a = re_hg h a := fun a ha => by rw [hh3]; exact (hw_n ha).trans (o2 a ha)
  have s3 : h3.1 = h.1 := by rw [hh3]; exact s2
  rw [← hh3]
  have hsN : ∀ y, y ∈ N → ¬ y = s := fun y hy z => hs (z ▸ hy)
  have cN3 : chn h3 6 N vl := chn_cong (fun y hy w hw => by
    obtain ⟨c0, nm, nu, c3, c4, mb, nx, nx', g1, g2, -⟩ := cells y hy
    rw [g1] at hw
    cases hw
    exact ⟨[c0, .int nm, .long nu, c3, c4, .int (ib (decide (y ∈ U))), mb, nx'], by rw [o3 y (hsN y hy)]; exact g2, rfl⟩) cN
  refine B387_15 (chn_R cN) ⟨_, e3, rfl⟩ (loop N [] rfl h3 vl .null (s3.trans hsz) e3 cN3 cN3 rfl (fun y hy => o3 y (hsN y hy)) (fun y hy => by cases hy) (fun y hy => by cases hy) (fun a h1 h2 => by rw [o3 a h1]; exact oth a h1 h2))
end TD
