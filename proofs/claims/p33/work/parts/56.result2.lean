/-! Result: what is written. -/
noncomputable def mfr (R : Rs) (C : Cd) (I : Nat → Int64) (sd : Int32) : Bool := ceq (rC R) C && (!cdw (rC R) || decide (rS R = sd)) && !bex (fun i => (ius (rC R)).testBit i && !decide (rI R i = I i)) 4
section RV
variable {SC : List Value} {d q : Nat} {h : re_H} {Q : Nat → Value → re_H → Prop} {r : Nat} {R : Rs} {E : Ev}
theorem c321 {p a2 i2 : Nat} {C : Cd} {I : Nat → Int64} {sd : Int32} (z : rs h E r R) (c : cd h p C) (u1 : re_hg h a2 = some (4, [.ref i2, .int sd])) (u2 : re_hg h i2 = some (101, lst 4 (fun i => .long (I i)))) (K : Q 1 (.int (ib (mfr R C I sd))) h) : wp SC 321 (d + 32) q 0 [(0, .ref r), (1, .ref p), (2, .ref a2)] [] h Q := by
  obtain ⟨ns, nms, fs, ms, z1, z2, z3, z4, z5, z6, z7, z8, z9, z10, z11⟩ := z
  obtain ⟨w, hw⟩ := cd_hg z6
  have hi := (cd_lt z6).2.2
  have no : mfr R C I sd = false → Q 1 (.int (i32 0)) h := fun e => by rw [e] at K; exact K
  refine B321_0 ⟨_, z1, rfl⟩ hw rfl (c131 z6 c (ret1 ?_))
  refine B321_8 (fun g => B321_32 (no ?_)) (fun g => ?_)
  · unfold mfr; rw [ib_0.mp g]; rfl
  have hc : ceq (rC R) C = true := by cases hc : ceq (rC R) C with | true => rfl | false => exact absurd (ib_0.mpr hc) g
  have rest : (!cdw (rC R) || decide (rS R = sd)) = true → wp SC 321 (d + 32) q 34 [(0, .ref r), (2, .ref a2)] [] h Q := by
    intro hs
    refine B321_34 ⟨_, z1, rfl⟩ hw rfl (c133 z6 (ret1 (B321_41 ?_)))
    have loop : ∀ k i : Nat, i + k = 4 → bex (fun i => (ius (rC R)).testBit i && !decide (rI R i = I i)) i = false → wp SC 321 (d + 32) q 45 [(0, .ref r), (2, .ref a2), (3, .int (i32 (ius (rC R)))), (4, .int (i32 i))] [] h Q := by
      intro k
      induction k with
      | zero =>
        intro i hi' hb
        cases (show i = 4 by omega)
        refine B321_45 (fun _ => B321_87 ?_) (fun g => absurd ((i3_lt (by omega) (by omega)).mp g) (by omega))
        have : mfr R C I sd = true := by unfold mfr; rw [hc, hs, hb]; rfl
        rw [this] at K
        exact K
      | succ k ih =>
        intro i hi' hb
        have next : ((ius (rC R)).testBit i && !decide (rI R i = I i)) = false → wp SC 321 (d + 32) q 81 [(0, .ref r), (2, .ref a2), (3, .int (i32 (ius (rC R)))), (4, .int (i32 i))] [] h Q := fun e => by
          refine B321_81 ?_
          rw [i3_add]
          exact ih (i + 1) (by omega) (by show (bex _ i || _) = false; rw [hb, Bool.false_or]; exact e)
        refine B321_45 (fun g => absurd ((i3_lt (by omega) (by omega)).mpr (by omega)) g) (fun _ => ?_)
        refine B321_51 (fun g => next ?_) (fun g => ?_)
        · rw [i3_bit (by omega) (by omega)] at g
          cases ht : (ius (rC R)).testBit i with
          | false => rfl
          | true => rw [ht] at g; exact absurd rfl g
        · rw [i3_bit (by omega) (by omega)] at g
          have ht : (ius (rC R)).testBit i = true := by
            cases ht : (ius (rC R)).testBit i with
            | true => rfl
            | false => rw [ht] at g; exact absurd g (by decide)
          refine B321_61 ⟨_, z1, rfl⟩ ⟨_, i, z7, rfl, by omega, lst_get _ (by omega)⟩ ⟨_, u1, rfl⟩ ⟨_, i, u2, rfl, by omega, lst_get _ (by omega)⟩ (fun g => next ?_) (fun g => B321_79 (no ?_))
          · rw [decide_eq_true g]; simp
          · have hb : bex (fun i => (ius (rC R)).testBit i && !decide (rI R i = I i)) 4 = true := bex_iff.mpr ⟨i, by omega, by simp [ht, g]⟩
            unfold mfr
            rw [hb]
            simp
    exact loop 4 0 rfl rfl
  refine B321_11 ⟨_, z1, rfl⟩ hw rfl (c132 z6 (ret1 ?_))
  refine B321_18 (fun g => rest ?_) (fun g => ?_)
  · rw [ib_0.mp g]; rfl
  · refine B321_21 ⟨_, z1, rfl⟩ ⟨_, u1, rfl⟩ (fun g' => rest ?_) (fun g' => B321_32 (no ?_))
    · rw [decide_eq_true g']; simp
    · have hd : cdw (rC R) = true := by cases hd : cdw (rC R) with | true => rfl | false => exact absurd (ib_0.mpr hd) g
      unfold mfr
      rw [hd, decide_eq_false g']
      simp
/-- the head alone is written -/
theorem rs_head {err : Int32} {runs cnt : Nat} {seed : Int32} (z : rs h E r R) (hl : ∀ x, E.2.2.1 x → ∃ w, re_hg h x = some (10, w)) (hc : cnt = (rK R).length) : rs (re_hw h r (rsc r err runs cnt seed)) E r (err, runs, rK R, rC R, rI R, seed, rW R) ∧ mo (inR r) 0 h (re_hw h r (rsc r err runs cnt seed)) ∧ ∀ x, E.2.2.1 x → re_hg (re_hw h r (rsc r err runs cnt seed)) x = re_hg h x := by
  have m : mo (inR r) 0 h (re_hw h r (rsc r err runs cnt seed)) := mo_hw (rs_hd z) (by omega) ⟨by omega, by omega⟩
  obtain ⟨ns, nms, fs, ms, z1, z2, z3, z4, z5, z6, z7, z8, z9, z10, z11⟩ := z
  have hk : ∀ x, E.2.2.1 x → re_hg (re_hw h r (rsc r err runs cnt seed)) x = re_hg h x := fun x hx => by
    obtain ⟨w, hw⟩ := hl x hx
    exact hw_n (fun y => by subst y; rw [hw] at z1; cases z1)
  exact ⟨⟨ns, nms, fs, ms, by rw [hw_s (hg_lt z1), hc], by rw [hw_n (by omega)]; exact z2, by rw [hw_n (by omega)]; exact z3, by rw [hw_n (by omega)]; exact z4, kpt_keep hk m.2.1 (eLe_rf E) z5, cd_fr (fun a h1 h2 => hw_n (by omega)) m.2.1 z6, by rw [hw_n (by omega)]; exact z7, by rw [hw_n (by omega)]; exact z8, by rw [hw_n (by omega)]; exact z9, z10, z11⟩, m, hk⟩
/-- nodes are no results' cells -/
def hld (h : re_H) (E : Ev) : Prop := ∀ x, E.2.2.1 x → ∃ w, re_hg h x = some (10, w)
theorem hld_ne {h : re_H} {E : Ev} (hl : hld h E) {x a t : Nat} {w : List Value} (hx : E.2.2.1 x) (e : re_hg h a = some (t, w)) (ht : ¬ t = 10) : ¬ x = a := fun y => by
  subst y
  obtain ⟨w', hw⟩ := hl x hx
  rw [hw] at e
  cases e
  exact ht rfl
theorem c327 (hl : hld h E) (z : rs h E r R) (K : ∀ h', rs h' E r (rup R R.1 []) → mo (inR r) 0 h h' → (∀ x, E.2.2.1 x → re_hg h' x = re_hg h x) → Q 0 .null h') : wp SC 327 d q 0 [(0, .ref r)] [] h Q := by
  obtain ⟨ns, nms, fs, ms, z1, z2, z3, z4, z5, z6, z7, z8, z9, z10, z11⟩ := z
  have loop : ∀ k i : Nat, i + k = 4 → ∀ (h1 : re_H) (fs1 : List Value), re_hg h1 r = some (rsc r R.1 R.2.1 0 (rS R)) → re_hg h1 (r + 3) = some (106, fs1) → fs1.length = 4 → (∀ j, j < i → fs1[j]? = some .null) → mo (fun a => a = r ∨ a = r + 3) 0 h h1 → wp SC 327 d q 7 [(0, .ref r), (1, .int (i32 i))] [] h1 Q := by
    intro k
    induction k with
    | zero =>
      intro i hi h1 fs1 e1 e2 hf f m
      cases (show i = 4 by omega)
      have hk : ∀ x, E.2.2.1 x → re_hg h1 x = re_hg h x := fun x hx => by
        obtain ⟨w, hw⟩ := hl x hx
        exact m.1.2 x (hg_lt hw) (fun y => y.elim (hld_ne hl hx z1 (by omega)) (hld_ne hl hx z4 (by omega)))
      refine B327_7 (fun _ => B327_25 (K h1 ⟨ns, nms, fs1, ms, e1, mo_g m (by omega) z2, mo_g m (by omega) z3, e2, ?_, cd_fr (fun a h1 h2 => m.1.2 a (by have := hg_lt z7; omega) (by omega)) m.2.1 z6, mo_g m (by omega) z7, mo_g m (by omega) z8, mo_g m (by omega) z9, z10, z11⟩ (mo_mono m (fun a _ y => by unfold inR; omega) (Nat.le_refl 0)) hk)) (fun g => absurd ((i3_lt (by omega) (by omega)).mp g) (by omega))
      exact ⟨Nat.zero_le _, z5.2.1, z5.2.2.1, hf, fun i n v y => (by cases y), fun j _ hj => f j hj⟩
    | succ k ih =>
      intro i hi h1 fs1 e1 e2 hf f m
      refine B327_7 (fun g => absurd ((i3_lt (by omega) (by omega)).mpr (by omega)) g) (fun _ => ?_)
      refine B327_12 ⟨_, e1, rfl⟩ e2 rfl (by omega) (by omega) (B327_19 ?_)
      rw [i3_add]
      refine ih (i + 1) (by omega) _ (fs1.set i .null) (by rw [hw_n (by omega)]; exact e1) (hw_s (hg_lt e2)) (by rw [List.length_set]; exact hf) (fun j hj => ?_) (mo_tr m (mo_hw e2 (by omega) (Or.inr rfl)) (Nat.le_refl 0))
      rcases Nat.decEq i j with hne | rfl
      · rw [List.getElem?_set_ne hne]; exact f j (by omega)
      · rw [List.getElem?_set_self (by omega)]
  refine B327_0 z1 (by simp) (B327_5 (loop 4 0 rfl _ fs (hw_s (hg_lt z1)) (by rw [hw_n (by omega)]; exact z4) z5.2.2.2.1 (fun j hj => by omega) (mo_hw z1 (by omega) (Or.inl rfl))))
theorem hld_keep {h h' : re_H} {E : Ev} (hl : hld h E) (hk : ∀ x, E.2.2.1 x → re_hg h' x = re_hg h x) : hld h' E := fun x hx => by rw [hk x hx]; exact hl x hx
theorem c326 (hl : hld h E) {err : Int32} (z : rs h E r R) (K : ∀ h', rs h' E r (rup R err []) → mo (inR r) 0 h h' → (∀ x, E.2.2.1 x → re_hg h' x = re_hg h x) → Q 0 .null h') : wp SC 326 (d + 1) q 0 [(0, .ref r), (1, .int err)] [] h Q := by
  obtain ⟨z2, m2, k2⟩ := rs_head (err := err) (runs := R.2.1) (seed := rS R) z hl rfl
  refine B326_0 (rs_hd z) (by simp [rsc]) ?_
  refine B326_5 (rs_hd z2) rfl (c327 (hld_keep hl k2) z2 (fun h' z3 m3 k3 => ret0 (B326_9 (K h' z3 (mo_tr m2 m3 (Nat.le_refl 0)) (fun x hx => (k3 x hx).trans (k2 x hx))))))
theorem c329 (hl : hld h E) {nm : Nat} (hn : nm < 16) {v : Option Tr} (hv : ∀ t, v = some t → isC t = true → stp t < E.2.1) (z : rs h E r R) (K : ∀ h', rs h' E r (R.1, R.2.1, rK R, rC R, rI R, rS R, fun i => if i = nm then v else rW R i) → mo (inR r) 0 h h' → (∀ x, E.2.2.1 x → re_hg h' x = re_hg h x) → Q 0 .null h') : wp SC 329 d q 0 [(0, .ref r), (1, .int (i32 nm)), (2, .int (i32 (knd v))), (3, .long (mrk E v))] [] h Q := by
  obtain ⟨ns, nms, fs, ms, z1, z2, z3, z4, z5, z6, z7, z8, z9, z10, z11⟩ := z
  refine B329_0 ⟨_, z1, rfl⟩ z8 rfl (by omega) (by rw [lst_len]; exact hn) ?_
  have e9 : re_hg (re_hw h (r + 8) (100, (lst 16 (fun i => .int (i32 (knd (rW R i))))).set nm (.int (i32 (knd v))))) (r + 9) = some (101, lst 16 (fun i => .long (ms i))) := by rw [hw_n (by omega)]; exact z9
  refine B329_7 ⟨_, by rw [hw_n (by omega)]; exact z1, rfl⟩ e9 rfl (by omega) (by rw [lst_len]; exact hn) (B329_14 (K _ ?_ ?_ ?_))
  · have m : mo (inR r) 0 h (re_hw (re_hw h (r + 8) (100, (lst 16 (fun i => .int (i32 (knd (rW R i))))).set nm (.int (i32 (knd v))))) (r + 9) (101, (lst 16 (fun i => .long (ms i))).set nm (.long (mrk E v)))) := mo_tr (mo_hw z8 (by omega) ⟨by omega, by omega⟩) (mo_hw e9 (by omega) ⟨by omega, by omega⟩) (Nat.le_refl 0)
    refine ⟨ns, nms, fs, fun i => if i = nm then mrk E v else ms i, by rw [hw_n (by omega), hw_n (by omega)]; exact z1, by rw [hw_n (by omega), hw_n (by omega)]; exact z2, by rw [hw_n (by omega), hw_n (by omega)]; exact z3, by rw [hw_n (by omega), hw_n (by omega)]; exact z4, kpt_keep (fun x hx => by rw [hw_n (hld_ne hl hx z9 (by omega)), hw_n (hld_ne hl hx z8 (by omega))]) m.2.1 (eLe_rf E) z5, cd_fr (fun a h1 h2 => by rw [hw_n (by omega), hw_n (by omega)]) m.2.1 z6, by rw [hw_n (by omega), hw_n (by omega)]; exact z7, ?_, ?_, ?_, ?_⟩
    · rw [hw_n (by omega), hw_s (hg_lt z8), lst_set]
      rw [show lst 16 (fun j => if j = nm then .int (i32 (knd v)) else .int (i32 (knd (rW R j)))) = lst 16 (fun i => .int (i32 (knd (if i = nm then v else rW R i)))) from lst_ext (fun i _ => by split <;> rfl)]
    · rw [hw_s (hg_lt e9), lst_set]
      rw [show lst 16 (fun j => if j = nm then .long (mrk E v) else .long (ms j)) = lst 16 (fun i => .long (if i = nm then mrk E v else ms i)) from lst_ext (fun i _ => by split <;> rfl)]
    · intro i t hi hc
      have hi : (if i = nm then v else rW R i) = some t := hi
      split at hi
      · exact hv t hi hc
      · exact z10 i t hi hc
    · intro i t hi
      have hi : (if i = nm then v else rW R i) = some t := hi
      show (if i = nm then mrk E v else ms i) = _
      split at hi
      next e => rw [if_pos e, hi]
      next e => rw [if_neg e]; exact z11 i t hi
  · exact mo_tr (mo_hw z8 (by omega) ⟨by omega, by omega⟩) (mo_hw e9 (by omega) ⟨by omega, by omega⟩) (Nat.le_refl 0)
  · intro x hx
    rw [hw_n (hld_ne hl hx z9 (by omega)), hw_n (hld_ne hl hx z8 (by omega))]
theorem c331 (hl : hld h E) {nm : Nat} {v : Tr} {nu : Int64} {f : Value} (hn : nm < 16) (hv : vl h E v nu f) (hc : (rK R).length < 4) (z : rs h E r R) (K : ∀ h', rs h' E r (R.1, R.2.1, rK R ++ [(nm, v)], rC R, rI R, rS R, rW R) → mo (inR r) 0 h h' → (∀ x, E.2.2.1 x → re_hg h' x = re_hg h x) → Q 0 .null h') : wp SC 331 d q 0 [(0, .ref r), (1, .int (i32 nm)), (2, .long nu), (4, f)] [] h Q := by
  obtain ⟨ns, nms, fs, ms, z1, z2, z3, z4, z5, z6, z7, z8, z9, z10, z11⟩ := z
  have rf := vl_R hv
  obtain ⟨k, hk⟩ : ∃ k, (rK R).length = k := ⟨_, rfl⟩
  rw [hk] at hc
  rw [hk] at z1
  refine B331_0 rf ⟨_, z1, rfl⟩ (fun g => absurd ((i3_lt (by omega) (by omega)).mpr hc) g) (fun _ => ?_)
  refine B331_8 rf ⟨_, z1, rfl⟩ ⟨_, z1, rfl⟩ z2 rfl (by omega) (by rw [z5.2.1]; exact hc) ?_
  obtain ⟨h1, hh1⟩ : ∃ h1, h1 = re_hw h (r + 1) (100, ns.set k (.int (i32 nm))) := ⟨_, rfl⟩
  have g1 : ∀ a, ¬ a = r + 1 → re_hg h1 a = re_hg h a := fun a ha => by rw [hh1]; exact hw_n ha
  have s1 : h1.1 = h.1 := by rw [hh1]; rfl
  rw [← hh1]
  refine B331_18 rf ⟨_, by rw [g1 r (by omega)]; exact z1, rfl⟩ ⟨_, by rw [g1 r (by omega)]; exact z1, rfl⟩ (by rw [g1 (r + 2) (by omega)]; exact z3) rfl (by omega) (by rw [z5.2.2.1]; exact hc) ?_
  obtain ⟨h2, hh2⟩ : ∃ h2, h2 = re_hw h1 (r + 2) (101, nms.set k (.long nu)) := ⟨_, rfl⟩
  have g2 : ∀ a, ¬ a = r + 2 → re_hg h2 a = re_hg h1 a := fun a ha => by rw [hh2]; exact hw_n ha
  have s2 : h2.1 = h1.1 := by rw [hh2]; rfl
  rw [← hh2]
  refine B331_28 rf ⟨_, by rw [g2 r (by omega), g1 r (by omega)]; exact z1, rfl⟩ ⟨_, by rw [g2 r (by omega), g1 r (by omega)]; exact z1, rfl⟩ (by rw [g2 (r + 3) (by omega), g1 (r + 3) (by omega)]; exact z4) rfl (by omega) (by rw [z5.2.2.2.1]; exact hc) ?_ ?_
  · rcases vl_9 hv with rfl | ⟨b, ws, rfl, e⟩
    · exact Or.inl rfl
    · refine Or.inr ⟨b, ws, rfl, ?_⟩
      rw [g2 b (fun y => by subst y; rw [z3] at e; cases e), g1 b (fun y => by subst y; rw [z2] at e; cases e)]
      exact e
  obtain ⟨h3, hh3⟩ : ∃ h3, h3 = re_hw h2 (r + 3) (106, fs.set k f) := ⟨_, rfl⟩
  have g3 : ∀ a, ¬ a = r + 3 → re_hg h3 a = re_hg h2 a := fun a ha => by rw [hh3]; exact hw_n ha
  have s3 : h3.1 = h2.1 := by rw [hh3]; rfl
  rw [← hh3]
  have e3 : re_hg h3 r = some (rsc r R.1 R.2.1 k (rS R)) := by rw [g3 r (by omega), g2 r (by omega), g1 r (by omega)]; exact z1
  refine B331_39 ⟨_, e3, rfl⟩ e3 (by simp) (B331_49 ?_)
  rw [i3_add]
  obtain ⟨h4, hh4⟩ : ∃ h4, h4 = re_hw h3 r (rsc r R.1 R.2.1 (k + 1) (rS R)) := ⟨_, rfl⟩
  have g4 : ∀ a, ¬ a = r → re_hg h4 a = re_hg h3 a := fun a ha => by rw [hh4]; exact hw_n ha
  have s4 : h4.1 = h3.1 := by rw [hh4]; rfl
  rw [show re_hw h3 r (5, ([.int R.1, .int (i32 R.2.1), .int (i32 k), .ref (r + 1), .ref (r + 2), .ref (r + 3), .ref (r + 4), .ref (r + 7), .int (rS R), .ref (r + 8), .ref (r + 9)] : List Value).set 2 (.int (i32 (k + 1)))) = h4 from hh4.symm]
  have ga : ∀ a, ¬ a = r → ¬ a = r + 1 → ¬ a = r + 2 → ¬ a = r + 3 → re_hg h4 a = re_hg h a := fun a b0 b1 b2 b3 => by rw [g4 a b0, g3 a b3, g2 a b2, g1 a b1]
  have m : mo (inR r) 0 h h4 := by
    refine ⟨⟨by omega, fun a _ ha => ?_⟩, fun a w e => ?_, by omega⟩
    · unfold inR at ha
      exact ga a (by omega) (by omega) (by omega) (by omega)
    · rw [ga a (fun y => by subst y; rw [z1] at e; cases e) (fun y => by subst y; rw [z2] at e; cases e) (fun y => by subst y; rw [z3] at e; cases e) (fun y => by subst y; rw [z4] at e; cases e)]
      exact e
  have hkeep : ∀ x, E.2.2.1 x → re_hg h4 x = re_hg h x := fun x hx => ga x (hld_ne hl hx z1 (by omega)) (hld_ne hl hx z2 (by omega)) (hld_ne hl hx z3 (by omega)) (hld_ne hl hx z4 (by omega))
  refine K h4 ⟨ns.set k (.int (i32 nm)), nms.set k (.long nu), fs.set k f, ms, ?_, ?_, ?_, ?_, ?_, cd_fr (fun a b1 b2 => ga a (by omega) (by omega) (by omega) (by omega)) m.2.1 z6, by rw [ga _ (by omega) (by omega) (by omega) (by omega)]; exact z7, by rw [ga _ (by omega) (by omega) (by omega) (by omega)]; exact z8, by rw [ga _ (by omega) (by omega) (by omega) (by omega)]; exact z9, z10, z11⟩ m hkeep
  · have : (rK (R.1, R.2.1, rK R ++ [(nm, v)], rC R, rI R, rS R, rW R)).length = k + 1 := by show (rK R ++ [(nm, v)]).length = _; rw [List.length_append, hk]; rfl
    rw [this, hh4, hw_s (by rw [s3, s2, s1]; exact hg_lt z1)]
  · rw [g4 _ (by omega), g3 _ (by omega), g2 _ (by omega), hh1]
    exact hw_s (hg_lt z2)
  · rw [g4 _ (by omega), g3 _ (by omega), hh2]
    exact hw_s (by rw [s1]; exact hg_lt z3)
  · rw [g4 _ (by omega), hh3]
    exact hw_s (by rw [s2, s1]; exact hg_lt z4)
  · refine ⟨by show (rK R ++ [(nm, v)]).length ≤ 4; rw [List.length_append, hk]; show k + 1 ≤ 4; omega, by rw [List.length_set]; exact z5.2.1, by rw [List.length_set]; exact z5.2.2.1, by rw [List.length_set]; exact z5.2.2.2.1, fun i n u hi => ?_, fun i hi hi4 => ?_⟩
    · have hi : (rK R ++ [(nm, v)])[i]? = some (n, u) := hi
      rcases Nat.lt_trichotomy i k with hlt | rfl | hgt
      · rw [List.getElem?_append_left (by omega)] at hi
        obtain ⟨y1, y2, nu', f', y3, y4, y5⟩ := z5.2.2.2.2.1 i n u hi
        exact ⟨y1, by rw [List.getElem?_set_ne (by omega)]; exact y2, nu', f', by rw [List.getElem?_set_ne (by omega)]; exact y3, by rw [List.getElem?_set_ne (by omega)]; exact y4, vl_keep hkeep m.2.1 (eLe_rf E) y5⟩
      · rw [List.getElem?_append_right (by omega), hk, Nat.sub_self] at hi
        cases hi
        exact ⟨hn, List.getElem?_set_self (by rw [z5.2.1]; exact hc), nu, f, List.getElem?_set_self (by rw [z5.2.2.1]; exact hc), List.getElem?_set_self (by rw [z5.2.2.2.1]; exact hc), vl_keep hkeep m.2.1 (eLe_rf E) hv⟩
      · rw [List.getElem?_eq_none (by rw [List.length_append, hk]; show k + 1 ≤ i; omega)] at hi
        cases hi
    · have hi : (rK R ++ [(nm, v)]).length ≤ i := hi
      rw [List.length_append, hk] at hi
      have hi : k + 1 ≤ i := hi
      rw [List.getElem?_set_ne (by omega)]
      exact z5.2.2.2.2.2 i (by omega) hi4
/-- the code of a result is another one -/
theorem rs_code {n : Nat} {h' : re_H} {C : Cd} (hl : hld h E) (z : rs h E r R) (c : cd h' (r + 4) C) (m : mo (in3 (r + 4)) n h h') : rs h' E r (R.1, R.2.1, rK R, C, rI R, rS R, rW R) ∧ mo (inR r) n h h' ∧ ∀ x, E.2.2.1 x → re_hg h' x = re_hg h x := by
  obtain ⟨ns, nms, fs, ms, z1, z2, z3, z4, z5, z6, z7, z8, z9, z10, z11⟩ := z
  have out : ∀ a, a < r + 4 ∨ r + 6 < a → ¬ in3 (r + 4) a := fun a ha y => by unfold in3 at y; omega
  obtain ⟨ns6, es6, y1, -, -, -⟩ := z6
  have hkeep : ∀ x, E.2.2.1 x → re_hg h' x = re_hg h x := fun x hx => by
    obtain ⟨w, hw⟩ := hl x hx
    refine m.1.2 x (hg_lt hw) (fun y => ?_)
    have n1 := hld_ne hl hx y1.1 (by omega)
    have n2 := hld_ne hl hx y1.2.1 (by omega)
    have n3 := hld_ne hl hx y1.2.2.1 (by omega)
    unfold in3 at y
    omega
  exact ⟨⟨ns, nms, fs, ms, mo_g m (out _ (by omega)) z1, mo_g m (out _ (by omega)) z2, mo_g m (out _ (by omega)) z3, mo_g m (out _ (by omega)) z4, kpt_keep hkeep m.2.1 (eLe_rf E) z5, c, mo_g m (out _ (by omega)) z7, mo_g m (out _ (by omega)) z8, mo_g m (out _ (by omega)) z9, z10, z11⟩, mo_mono m (fun a _ y => by unfold in3 at y; unfold inR; omega) (Nat.le_refl _), hkeep⟩
theorem c332 (hl : hld h E) (z : rs h E r R) (K : ∀ h', rs h' E r (-1, 0, [], [], rI R, rS R, rW R) → mo (inR r) 0 h h' → (∀ x, E.2.2.1 x → re_hg h' x = re_hg h x) → Q 0 .null h') : wp SC 332 (d + 1) q 0 [(0, .ref r)] [] h Q := by
  obtain ⟨z2, m2, k2⟩ := rs_head (err := -1) (runs := R.2.1) (seed := rS R) z hl rfl
  refine B332_0 (rs_hd z) (by simp [rsc]) ?_
  obtain ⟨z3, m3, k3⟩ := rs_head (err := -1) (runs := 0) (seed := rS R) z2 (hld_keep hl k2) rfl
  refine B332_5 (rs_hd z2) (by simp [rsc]) ?_
  have hl3 : hld _ E := hld_keep (hld_keep hl k2) k3
  refine B332_10 (rs_hd z3) rfl (c327 hl3 z3 (fun h4 z4 m4 k4 => ret0 ?_))
  have z4' := z4
  obtain ⟨ns, nms, fs, ms, y1, y2, y3, y4, y5, y6, -⟩ := z4'
  obtain ⟨w, hw⟩ := cd_hg y6
  refine B332_14 ⟨_, y1, rfl⟩ hw rfl (c138 y6 (fun h5 c5 m5 => ret0 (B332_21 ?_)))
  obtain ⟨z5, m5', k5⟩ := rs_code (hld_keep hl3 k4) z4 c5 m5
  exact K h5 z5 (mo_tr m2 (mo_tr m3 (mo_tr m4 m5' (Nat.le_refl 0)) (Nat.le_refl 0)) (Nat.le_refl 0)) (fun x hx => (k5 x hx).trans ((k4 x hx).trans ((k3 x hx).trans (k2 x hx))))
theorem c328 {p a2 i2 : Nat} {C : Cd} {I : Nat → Int64} {sd : Int32} (hl : hld h E) (z : rs h E r R) (c : cd h p C) (hp : p + 2 < r ∨ r + 9 < p) (u1 : re_hg h a2 = some (4, [.ref i2, .int sd])) (u2 : re_hg h i2 = some (101, lst 4 (fun i => .long (I i)))) (hi2 : i2 < r ∨ r + 9 < i2) (K : ∀ h', rs h' E r (0, R.2.1 + 1, [], C, (fun i => if i < 4 then I i else rI R i), sd, rW R) → mo (inR r) 0 h h' → (∀ x, E.2.2.1 x → re_hg h' x = re_hg h x) → Q 0 .null h') : wp SC 328 (d + 1) q 0 [(0, .ref r), (1, .ref p), (2, .ref a2)] [] h Q := by
  refine B328_0 (rs_hd z) rfl (c327 hl z (fun h1 z1 m1 k1 => ret0 ?_))
  have hl1 := hld_keep hl k1
  obtain ⟨z2, m2, k2⟩ := rs_head (err := 0) (runs := R.2.1) (seed := rS R) z1 hl1 rfl
  have hl2 : hld _ E := hld_keep hl1 k2
  refine B328_4 (rs_hd z1) (by simp [rsc]) ?_
  obtain ⟨z3, m3, k3⟩ := rs_head (err := 0) (runs := R.2.1 + 1) (seed := rS R) z2 hl2 rfl
  have hl3 : hld _ E := hld_keep hl2 k3
  refine B328_9 ⟨_, rs_hd z2, rfl⟩ (rs_hd z2) (by simp [rsc]) ?_
  rw [i3_add]
  have m13 := mo_tr m1 (mo_tr m2 m3 (Nat.le_refl 0)) (Nat.le_refl 0)
  have out : ∀ a, p ≤ a → a ≤ p + 2 → ¬ inR r a := fun a h1 h2 y => by unfold inR at y; omega
  have c3 : cd _ p C := cd_fr (fun a h1 h2 => m13.1.2 a (by have := cd_top c; omega) (out a h1 h2)) m13.2.1 c
  have z3' := z3
  obtain ⟨ns, nms, fs, ms, y1, y2, y3, y4, y5, y6, -⟩ := z3'
  obtain ⟨w, hw⟩ := cd_hg y6
  refine B328_19 ⟨_, y1, rfl⟩ hw rfl (c134 y6 c3 (by omega) (fun h4 c4 m4 => ret0 ?_))
  obtain ⟨z4, m4', k4⟩ := rs_code hl3 z3 c4 m4
  have hl4 := hld_keep hl3 k4
  have m14 := mo_tr m13 m4' (Nat.le_refl 0)
  have ha2 : a2 < r ∨ r + 9 < a2 := by
    obtain ⟨ns0, nm0, fs0, ms0, w1, w2, w3, w4, w5, w6, w7, w8, w9, w10, w11⟩ := z
    obtain ⟨n6, e6, x1, -, -, -⟩ := w6
    have key : ∀ a t w, re_hg h a = some (t, w) → ¬ t = 4 → ¬ a2 = a := fun a t w e ht y => by subst y; rw [u1] at e; cases e; exact ht rfl
    have q0 := key _ _ _ w1 (by omega)
    have q1 := key _ _ _ w2 (by omega)
    have q2 := key _ _ _ w3 (by omega)
    have q3 := key _ _ _ w4 (by omega)
    have q4 := key _ _ _ x1.1 (by omega)
    have q5 := key _ _ _ x1.2.1 (by omega)
    have q6 := key _ _ _ x1.2.2.1 (by omega)
    have q7 := key _ _ _ w7 (by omega)
    have q8 := key _ _ _ w8 (by omega)
    have q9 := key _ _ _ w9 (by omega)
    omega
  have u14 : re_hg h4 a2 = some (4, [.ref i2, .int sd]) := mo_g m14 (fun y => by unfold inR at y; omega) u1
  obtain ⟨z5, m5, k5⟩ := rs_head (err := 0) (runs := R.2.1 + 1) (seed := sd) z4 hl4 rfl
  have hl5 : hld _ E := hld_keep hl4 k5
  refine B328_27 ⟨_, u14, rfl⟩ (rs_hd z4) (by simp [rsc]) (B328_35 ?_)
  have m15 := mo_tr m14 m5 (Nat.le_refl 0)
  have loop : ∀ k i : Nat, i + k = 4 → ∀ h6, rs h6 E r (0, R.2.1 + 1, [], C, (fun j => if j < i then I j else rI R j), sd, rW R) → mo (inR r) 0 h h6 → (∀ x, E.2.2.1 x → re_hg h6 x = re_hg h x) → wp SC 328 (d + 1) q 37 [(0, .ref r), (2, .ref a2), (3, .int (i32 i))] [] h6 Q := by
    intro k
    induction k with
    | zero =>
      intro i hi h6 z6 m6 k6
      cases (show i = 4 by omega)
      exact B328_37 (fun _ => B328_60 (K h6 z6 m6 k6)) (fun g => absurd ((i3_lt (by omega) (by omega)).mp g) (by omega))
    | succ k ih =>
      intro i hi h6 z6 m6 k6
      refine B328_37 (fun g => absurd ((i3_lt (by omega) (by omega)).mpr (by omega)) g) (fun _ => ?_)
      have hl6 := hld_keep hl k6
      obtain ⟨ns, nms, fs, ms, y1, y2, y3, y4, y5, y6, y7, y8, y9, y10, y11⟩ := z6
      refine B328_42 (ae1 := r + 7) ⟨_, y1, rfl⟩ ⟨_, mo_g m6 (fun y => by unfold inR at y; omega) u1, rfl⟩ ⟨_, i, mo_g m6 (fun y => by unfold inR at y; omega) u2, rfl, by omega, lst_get _ (by omega)⟩ y7 rfl (by omega) (by rw [lst_len]; omega) (B328_54 ?_)
      rw [i3_add]
      have m7 : mo (inR r) 0 h6 (re_hw h6 (r + 7) (101, (lst 4 (fun i_1 => .long (if i_1 < i then I i_1 else rI R i_1))).set i (.long (I i)))) := mo_hw y7 (by omega) ⟨by omega, by omega⟩
      have k7 : ∀ x, E.2.2.1 x → re_hg (re_hw h6 (r + 7) (101, (lst 4 (fun i_1 => .long (if i_1 < i then I i_1 else rI R i_1))).set i (.long (I i)))) x = re_hg h6 x := fun x hx => hw_n (hld_ne hl6 hx y7 (by omega))
      refine ih (i + 1) (by omega) _ ⟨ns, nms, fs, ms, by rw [hw_n (by omega)]; exact y1, by rw [hw_n (by omega)]; exact y2, by rw [hw_n (by omega)]; exact y3, by rw [hw_n (by omega)]; exact y4, kpt_keep k7 m7.2.1 (eLe_rf E) y5, cd_fr (fun a h1 h2 => hw_n (by omega)) m7.2.1 y6, ?_, by rw [hw_n (by omega)]; exact y8, by rw [hw_n (by omega)]; exact y9, y10, y11⟩ (mo_tr m6 m7 (Nat.le_refl 0)) (fun x hx => (k7 x hx).trans (k6 x hx))
      rw [hw_s (hg_lt y7), lst_set]
      rw [show lst 4 (fun j => if j = i then .long (I i) else .long (if j < i then I j else rI R j)) = lst 4 (fun j => .long (if j < i + 1 then I j else rI R j)) from lst_ext (fun j _ => by
        by_cases hj : j = i
        · subst hj; simp
        · rw [if_neg hj]
          by_cases h9 : j < i
          · rw [if_pos h9, if_pos (by omega)]
          · rw [if_neg h9, if_neg (by omega)])]
  refine loop 4 0 rfl _ ?_ m15 (fun x hx => (k5 x hx).trans ((k4 x hx).trans ((k3 x hx).trans ((k2 x hx).trans (k1 x hx)))))
  have : (fun j => if j < 0 then I j else rI R j) = rI R := funext (fun j => if_neg (by omega))
  rw [this]
  exact z5
end RV
