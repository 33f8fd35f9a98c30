/-! Machine: finding. -/
def isL : Tr → Bool
  | .leaf => true
  | _ => false
def mTn (I : Nat → Int64) (sd : Int32) (cl rid : Nat) (M : Mt) : Option Mt :=
  match M.1 with
  | [] => none
  | p :: r => if isL p.1 = true then none else if p.2.2 = true then mEn sd cl rid p.1 p.2.1 (r, M.2) else mBg I rid p.1 p.2.1 (r, M.2)
def mRn (I : Nat → Int64) (sd : Int32) (cl rid : Nat) : Nat → Mt → Bool × Mt
  | 0, M => (false, M)
  | n + 1, M => match M.1 with
    | [] => (decide (M.2.1.length = 1), M)
    | _ :: _ => match mTn I sd cl rid M with
      | none => (false, M)
      | some M' => mRn I sd cl rid n M'
theorem mRn_nil {I : Nat → Int64} {sd : Int32} {cl rid n : Nat} {Y : List Tr × Nat × Nat × Nat} : mRn I sd cl rid (n + 1) ([], Y) = (decide (Y.1.length = 1), ([], Y)) := rfl
theorem mRn_cons {I : Nat → Int64} {sd : Int32} {cl rid n : Nat} {p : Tr × Tr × Bool} {r : List (Tr × Tr × Bool)} {Y : List Tr × Nat × Nat × Nat} : mRn I sd cl rid (n + 1) (p :: r, Y) = match mTn I sd cl rid (p :: r, Y) with
      | none => (false, (p :: r, Y))
      | some M' => mRn I sd cl rid n M' := rfl
section MM
variable {S : List (Tr × Tr × Bool)} {V : List Tr} {sp dr B : Nat} {M' : Mt} {e env : Tr} {sd : Int32} {cl rid : Nat} {I : Nat → Int64}
/-- what a turn does to the sizes -/
def szs (S : List (Tr × Tr × Bool)) (V : List Tr) (sp : Nat) (M' : Mt) : Prop := M'.2.2.1 = sp ∧ en M'.1 = en S ∧ M'.1.length ≤ S.length + 1 ∧ M'.2.1.length ≤ V.length
theorem mEn_f (y : mEn sd cl rid e env (S, V, sp, dr, B) = some M') : szs S V sp M' := by
  unfold mEn at y
  split at y
  · match V, y with
    | [], y => cases y
    | v :: r, y =>
      unfold mE3 at y
      simp only at y
      split at y
      · cases y
      · cases y; exact ⟨rfl, rfl, Nat.le_succ _, Nat.le_refl _⟩
  split at y
  · match V, y with
    | [], y => cases y
    | [_], y => cases y
    | v :: u :: r, y =>
      rw [mE4_c] at y
      split at y
      · cases y
      · cases y; exact ⟨rfl, rfl, Nat.le_succ _, Nat.le_succ _⟩
  split at y
  · match V, y with
    | [], y => cases y
    | v :: r, y =>
      rw [mE5_c] at y
      split at y
      · cases y
      · cases y; exact ⟨rfl, Nat.zero_add _, Nat.le_refl _, Nat.le_succ _⟩
  split at y
  · match V, y with
    | [], y => cases y
    | v :: r, y =>
      cases y; exact ⟨rfl, Nat.zero_add _, Nat.le_refl _, Nat.le_succ _⟩
  split at y
  · match V, y with
    | [], y => cases y
    | [_], y => cases y
    | v :: u :: r, y =>
      rw [mE8_c] at y
      split at y
      · cases y; exact ⟨rfl, Nat.zero_add _, Nat.le_refl _, Nat.le_trans (Nat.le_succ _) (Nat.le_succ _)⟩
      · cases y
  cases y
theorem mBg_f (y : mBg I rid e env (S, V, sp, dr, B) = some M') : sp < 300 ∧ M'.2.2.1 = sp + 1 ∧ M'.1.length ≤ S.length + 3 ∧ M'.2.1.length ≤ V.length + 1 := by
  unfold mBg at y
  split at y
  next g =>
    refine ⟨g, ?_⟩
    unfold mBh at y
    split at y
    · cases y; exact ⟨rfl, by show S.length ≤ S.length + 3; omega, Nat.le_refl _⟩
    split at y
    · cases hl : lku (wch e) env with
      | none => rw [hl] at y; cases y
      | some v => rw [hl] at y; cases y; exact ⟨rfl, by show S.length ≤ S.length + 3; omega, Nat.le_refl _⟩
    split at y
    · cases y; exact ⟨rfl, by show S.length ≤ S.length + 3; omega, Nat.le_refl _⟩
    split at y
    · cases y; exact ⟨rfl, by show S.length ≤ S.length + 3; omega, Nat.le_refl _⟩
    split at y
    · cases y; exact ⟨rfl, by show S.length + 1 + 1 + 1 ≤ S.length + 3; omega, Nat.le_succ _⟩
    · cases y; exact ⟨rfl, by show S.length + 1 + 1 ≤ S.length + 3; omega, Nat.le_succ _⟩
  · cases y
end MM
theorem rn_g {s m rid rb : Nat} {h h' : re_H} {E E' : Ev} {N N' F : List Nat} {ho la a t : Nat} {w : List Value} (st : sth h E s rb N F ho la) (r : rn s m rid h E N h' E' N') (e : re_hg h a = some (t, w)) (h1 : ¬ t = 6) (h2 : ¬ t = 10) (h3 : ¬ inM m a) : re_hg h' a = some (t, w) := by
  rw [r.2.1 a (hg_lt e) (fun y => ?_) h3 (Or.inr (fun y => sto_ne st.1 y e h2 rfl))]
  · exact e
  · subst y
    obtain ⟨⟨vl, vf, e', -⟩, -⟩ := st.1
    rw [e] at e'
    cases e'
    exact h1 rfl
theorem sth_hld {h : re_H} {E : Ev} {s rb : Nat} {N F : List Nat} {ho la : Nat} (st : sth h E s rb N F ho la) : hld h E := fun x hx => by
  obtain ⟨c0, nm, nu, c3, c4, mb, nx, h1, -⟩ := st.1.2.2.2.2.1 x (st.2 x hx).1
  exact ⟨_, h1⟩
/-- between two findings -/
def mcs (h : re_H) (m s rr cl sp dr : Nat) (kn : Value) (ff : Nat) : Prop := re_R kn ∧ ∃ (x5 x8 : Int32) (ps ss es ns fs : List Value), m6 h m (mW s rr m x5 x8 (i32 cl) (i32 sp) (i32 dr) kn ff) ps ss es ns fs h ∧ (ps.length = 604 ∧ ss.length = 604 ∧ es.length = 604 ∧ ns.length = 301 ∧ fs.length = 301)
theorem mch_s {h : re_H} {E : Ev} {m s rr cl : Nat} {M : Mt} {kn : Value} {ff : Nat} (z : mch h E m s rr cl M kn ff) : mcs h m s rr cl M.2.2.1 M.2.2.2.1 kn ff := by
  obtain ⟨-, rk, ps, ss, es, ns, fs, o, l, -⟩ := z
  exact ⟨rk, _, _, ps, ss, es, ns, fs, o, l⟩
theorem mcs_z {h : re_H} {m s rr cl sp dr : Nat} {kn : Value} {ff : Nat} (z : mcs h m s rr cl sp dr kn ff) : mcz h m s rr ff := by
  obtain ⟨rk, x5, x8, ps, ss, es, ns, fs, o, l⟩ := z
  exact ⟨_, _, _, _, _, kn, ps, ss, es, ns, fs, o, l⟩
section MH
variable {SC : List Value} {d q : Nat} {h : re_H} {Q : Nat → Value → re_H → Prop} {m s rb rr cl rid : Nat} {sp dr B : Nat} {kn : Value} {ff : Nat} {E : Ev} {N F : List Nat} {ho la i2 : Nat} {sd : Int32} {I : Nat → Int64}
theorem c451 {e env : Tr} {v1 : Value} (z : mcs h m s rr cl sp dr kn ff) (st : sth h E s rb N F ho la) (f : fno E ff) (hB : E.2.1 = B) (hk : ff + 700 < 2 ^ 62) (u1 : re_hg h rr = some (4, [.ref i2, .int sd])) (u2 : re_hg h i2 = some (101, lst 4 (fun i => .long (I i)))) (hi2 : ¬ inM m i2) (he : ex h e v1) (hi : inps e < 16) (hn : nd h E env kn) (hw : wT env = true) (hs : isS env = true) (hsp : sp ≤ 300)
    (K0 : ∀ h' E' N' F' j k, (mRn I sd cl rid 700 ([(e, env, false)], [], sp, dr, B)).1 = false → sth h' E' s rb N' F' (ho + j) la → fno E' (ff + k) → E'.2.1 = (mRn I sd cl rid 700 ([(e, env, false)], [], sp, dr, B)).2.2.2.2.2 → rn s m rid h E N h' E' N' → mcz h' m s rr (ff + k) → N'.length ≤ max N.length (ho + j + la) → j + sp ≤ 300 → k ≤ 700 → Q 1 (.int 0) h')
    (K1 : ∀ h' j k, (mRn I sd cl rid 700 ([(e, env, false)], [], sp, dr, B)).1 = true → zp s rb m rr cl rid la kn h E N ho ff j k (mRn I sd cl rid 700 ([(e, env, false)], [], sp, dr, B)).2 h' → j + sp ≤ (mRn I sd cl rid 700 ([(e, env, false)], [], sp, dr, B)).2.2.2.1 → (mRn I sd cl rid 700 ([(e, env, false)], [], sp, dr, B)).2.2.2.1 ≤ 300 → (mRn I sd cl rid 700 ([(e, env, false)], [], sp, dr, B)).2.2.1.length = 1 → (mRn I sd cl rid 700 ([(e, env, false)], [], sp, dr, B)).2.1 = [] → k ≤ 700 → Q 1 (.int 1) h') : wp SC 451 (d + 4) q 0 [(0, .ref m), (1, v1)] [] h Q := by
  obtain ⟨R, hR⟩ : ∃ R, R = mRn I sd cl rid 700 ([(e, env, false)], [], sp, dr, B) := ⟨_, rfl⟩
  rw [← hR] at K0 K1
  have loop : ∀ (fu t : Nat), fu + t = 700 → ∀ (h1 : re_H) (E1 : Ev) (N1 F1 : List Nat) (j k : Nat) (S : List (Tr × Tr × Bool)) (V : List Tr) (sp1 dr1 B1 : Nat), R = mRn I sd cl rid fu (S, V, sp1, dr1, B1) → sth h1 E1 s rb N1 F1 (ho + j) la → fno E1 (ff + k) → E1.2.1 = B1 → rn s m rid h E N h1 E1 N1 → mch h1 E1 m s rr cl (S, V, sp1, dr1, B1) kn (ff + k) → N1.length ≤ max N.length (ho + j + la) → re_hg h1 rr = some (4, [.ref i2, .int sd]) → re_hg h1 i2 = some (101, lst 4 (fun i => .long (I i))) → j + en S + sp ≤ sp1 → t + en S + 2 * sp ≤ 2 * sp1 → S.length + 2 * sp ≤ 1 + 2 * sp1 → V.length + sp ≤ sp1 → sp1 ≤ 300 → k ≤ t → wp SC 451 (d + 4) q 22 [(0, .ref m), (2, .int (i32 t))] [] h1 Q := by
    intro fu
    induction fu with
    | zero => intro t ht h1 E1 N1 F1 j k S V sp1 dr1 B1 _ _ _ _ _ _ _ _ _ _ b2 _ _ b5; omega
    | succ fu ih =>
      intro t ht h1 E1 N1 F1 j k S V sp1 dr1 B1 hr st1 f1 hB1 rn1 z1 nl v1' v2' b1 b2 b3 b4 b5 b6
      have z10 := z1
      have zz := mch_z z1
      obtain ⟨hh, rk, ps, ss, es, ns, fs, o, l, zs, zv⟩ := z1
      refine B451_22 (fun g => absurd ((i3_lt (b := 1000000) (by omega) (by omega)).mpr (by omega)) g) (fun _ => ?_)
      cases S with
      | nil =>
        rw [mRn_nil] at hr
        refine B451_28 ⟨_, o.2.1, rfl⟩ (fun _ => ?_) (fun g => absurd ((i3_pos (a := 0) (by omega)).mp g) (by omega))
        refine B451_116 ⟨_, o.2.1, rfl⟩ (fun g => absurd rfl g) (fun _ => ?_)
        refine B451_123 ⟨_, o.2.1, rfl⟩ (fun g => ?_) (fun g => ?_)
        · have hne : ¬ V.length = 1 := fun y => g (by show i32 V.length = i32 1; rw [y])
          refine B451_135 (B451_136 (Or.inl rfl) (K0 h1 E1 N1 F1 j k ?_ st1 f1 ?_ rn1 zz nl (by omega) (by omega)))
          · rw [hr]; exact decide_eq_false hne
          · rw [hr]; exact hB1
        · have he1 : V.length = 1 := (i3_eq (by omega) (by omega)).mp g
          refine B451_131 (B451_136 (Or.inr rfl) (K1 h1 j k ?_ ⟨E1, N1, F1, st1, f1, ?_, rn1, ?_, nl⟩ ?_ ?_ ?_ ?_ (by omega)))
          · rw [hr]; exact decide_eq_true he1
          · rw [hr]; exact hB1
          · rw [hr]; exact z10
          · rw [hr]; show j + sp ≤ sp1; omega
          · rw [hr]; exact b5
          · rw [hr]; exact he1
          · rw [hr]
      | cons p r =>
        obtain ⟨pe, penv, pb'⟩ := p
        obtain ⟨⟨vp, vs, y1, y2, y3, y4, y5, y6, y7, y8⟩, zs⟩ := zs
        have b3 : r.length + 1 + 2 * sp ≤ 1 + 2 * sp1 := b3
        have eq1 : i32 (r.length + 1) - i32 1 = i32 r.length := i3_sub (by omega)
        rw [mRn_cons] at hr
        refine B451_28 ⟨_, o.2.1, rfl⟩ (fun g => absurd ((i3_pos (a := r.length + 1) (by omega)).mpr (by omega)) g) (fun _ => ?_)
        refine B451_35 ⟨_, o.2.1, rfl⟩ o.2.1 (Nat.lt_of_sub_eq_succ rfl) ?_
        rw [show i32 ((pe, penv, pb') :: r).length - i32 1 = i32 r.length from eq1]
        have o1 := m6_0 o 5 (.int (i32 r.length))
        obtain ⟨z2, q2⟩ := mk_mch (S := r) (V := V) (sp := sp1) (dr := dr1) (B := B1) hh rk o o1 l zs zv
        obtain ⟨st2, rn2⟩ := mw_rn (rid := rid) st1 q2
        have v12 := q2.2.2 rr 4 _ v1' (by omega) (by omega)
        have v22 := (q2.2.1 i2 hi2).trans v2'
        have y2' := ex_xk (mw_xk q2) y2
        have y5' := mw_nd hh q2 y5
        -- it fails
        have fail : mTn I sd cl rid ((pe, penv, pb') :: r, V, sp1, dr1, B1) = none → ∀ h', mcz h' m s rr (ff + k) → mw m (re_hw h1 m (7, (mW s rr m (i32 ((pe, penv, pb') :: r).length) (i32 V.length) (i32 cl) (i32 sp1) (i32 dr1) kn (ff + k)).set 5 (.int (i32 r.length)))) h' → Q 1 (.int 0) h' := by
          intro hn' h' z' a'
          rw [hn'] at hr
          obtain ⟨st3, rn3⟩ := mw_rn (rid := rid) st2 a'
          exact K0 h' E1 N1 F1 j k (by rw [hr]) st3 f1 (by rw [hr]; exact hB1) (rn_tr rn1 (rn_tr rn2 rn3)) z' nl (by omega) (by omega)
        -- it goes on
        have goes : ∀ (M' : Mt) h' j' k', mTn I sd cl rid ((pe, penv, pb') :: r, V, sp1, dr1, B1) = some M' → k' ≤ 1 → zp s rb m rr cl rid la kn (re_hw h1 m (7, (mW s rr m (i32 ((pe, penv, pb') :: r).length) (i32 V.length) (i32 cl) (i32 sp1) (i32 dr1) kn (ff + k)).set 5 (.int (i32 r.length)))) E1 N1 (ho + j) (ff + k) j' k' M' h' → j + j' + en M'.1 + sp ≤ M'.2.2.1 → t + 1 + en M'.1 + 2 * sp ≤ 2 * M'.2.2.1 → M'.1.length + 2 * sp ≤ 1 + 2 * M'.2.2.1 → M'.2.1.length + sp ≤ M'.2.2.1 → M'.2.2.1 ≤ 300 → wp SC 451 (d + 4) q 110 [(0, .ref m), (2, .int (i32 t))] [] h' Q := by
          intro M' h' j' k' hM hk' zpp c1 c2 c3 c4 c5
          rw [hM] at hr
          obtain ⟨E3, N3, F3, w1, w2, w3, w4, w5, w6⟩ := zpp
          refine B451_110 ?_
          rw [i3_add]
          have w1' : sth h' E3 s rb N3 F3 (ho + (j + j')) la := by rw [← Nat.add_assoc]; exact w1
          have w2' : fno E3 (ff + (k + k')) := by rw [← Nat.add_assoc]; exact w2
          have w5' : mch h' E3 m s rr cl M' kn (ff + (k + k')) := by rw [← Nat.add_assoc]; exact w5
          exact ih (t + 1) (by omega) h' E3 N3 F3 (j + j') (k + k') M'.1 M'.2.1 M'.2.2.1 M'.2.2.2.1 M'.2.2.2.2 hr w1' w2' w3 (rn_tr rn1 (rn_tr rn2 w4)) w5' (by omega) (rn_g st2 w4 v12 (by omega) (by omega) (m6_no o1 v12 (by omega) (by omega))) (rn_g st2 w4 v22 (by omega) (by omega) hi2) c1 c2 c3 c4 c5 (by omega)
        refine B451_45 ⟨_, o1.2.1, rfl⟩ ⟨_, o1.2.1, rfl⟩ (ex_R y2) ⟨_, r.length, o1.2.2.1, rfl, by omega, y1⟩ (fun g => ?_) (fun b hb => ?_)
        · refine B451_108 (fail ?_ _ (mch_z z2) mw_rf)
          rcases ex_cases y2 with ⟨rfl, -⟩ | ⟨_, _, _, _, _, _, _, _, _, _, _, hv, -⟩
          · rfl
          · rw [g] at hv; cases hv
        subst hb
        rcases ex_cases y2 with ⟨-, hv⟩ | ⟨sr, w, n, a, bb, c, x, va, vb, vc, rfl, hv, -⟩
        · cases hv
        cases hv
        refine B451_59 ⟨_, o1.2.1, rfl⟩ ⟨_, o1.2.1, rfl⟩ ⟨_, r.length, o1.2.2.2.2.1, rfl, by omega, y8⟩ (fun g => ?_) (fun g => ?_)
        · have hb : pb' = false := by cases pb' with | false => rfl | true => exact absurd (show ib true = 0 from g) (by decide)
          subst hb
          have me : mTn I sd cl rid ((tE sr w n a bb c, penv, false) :: r, V, sp1, dr1, B1) = mBg I rid (tE sr w n a bb c) penv (r, V, sp1, dr1, B1) := rfl
          have b1 : j + (0 + en r) + sp ≤ sp1 := b1
          have b2 : t + (0 + en r) + 2 * sp ≤ 2 * sp1 := b2
          refine B451_91 ⟨_, o1.2.1, rfl⟩ ⟨_, o1.2.1, rfl⟩ (nd_R y5) ⟨_, r.length, o1.2.2.2.1, rfl, by omega, y4⟩ o1.2.1 rfl (c460 z2 st2 f1 hB1 (by omega) v12 v22 hi2 y2' y3 y5' y6 y7 (by omega) (by omega) b5 (fun y h' z' a' => ret1 (B451_105 (fun g => absurd rfl g) (fun _ => B451_108 (fail (me.trans y) h' z' a')))) (fun M' h' j' k' y hj hk' zpp => ret1 (B451_105 (fun _ => ?_) (fun g => absurd g (by decide)))))
          obtain ⟨s1, s2, s3, s4⟩ := mBg_f y
          exact goes M' h' j' k' (me.trans y) hk' zpp (by omega) (by omega) (by omega) (by omega) (by omega)
        · have hb : pb' = true := by cases pb' with | true => rfl | false => exact absurd rfl g
          subst hb
          have me : mTn I sd cl rid ((tE sr w n a bb c, penv, true) :: r, V, sp1, dr1, B1) = mEn sd cl rid (tE sr w n a bb c) penv (r, V, sp1, dr1, B1) := rfl
          have b1 : j + (1 + en r) + sp ≤ sp1 := b1
          have b2 : t + (1 + en r) + 2 * sp ≤ 2 * sp1 := b2
          refine B451_71 ⟨_, o1.2.1, rfl⟩ ⟨_, o1.2.1, rfl⟩ (nd_R y5) ⟨_, r.length, o1.2.2.2.1, rfl, by omega, y4⟩ o1.2.1 rfl (c453 z2 st2 f1 hB1 v12 y2' y3 y5' y6 y7 (by omega) (by omega) (fun y h' z' a' => ret1 (B451_85 (fun _ => B451_108 (fail (me.trans y) h' z' a')) (fun g => absurd rfl g))) (fun M' h' j' y hj zpp => ret1 (B451_85 (fun g => absurd g (by decide)) (fun _ => B451_88 ?_))))
          obtain ⟨s1, s2, s3, s4⟩ := mEn_f y
          exact goes M' h' j' 0 (me.trans y) (by omega) zpp (by omega) (by omega) (by omega) (by omega) (by omega)
  obtain ⟨rk, x5, x8, ps, ss, es, ns, fs, o, l⟩ := z
  have r1 := ex_R he
  refine B451_0 r1 o.2.1 (Nat.lt_of_sub_eq_succ rfl) ?_
  have o1 := m6_0 o 5 (.int (i32 0))
  refine B451_5 r1 o1.2.1 (Nat.lt_of_sub_eq_succ rfl) ?_
  have o2 := m6_0 o1 8 (.int (i32 0))
  have hh := sth_hld st
  obtain ⟨z2, q2⟩ := mk_mch (S := []) (V := []) (sp := sp) (dr := dr) (B := B) hh rk o o2 l trivial trivial
  obtain ⟨st2, rn2⟩ := mw_rn (rid := rid) st q2
  refine B451_10 r1 rk ⟨_, o2.2.1, rfl⟩ o2.2.1 rfl (c452 (b := false) z2 (ex_xk (mw_xk q2) he) hi (mw_nd hh q2 hn) hw hs (by show 0 < 604; omega) (fun h' z' a' => ret0 (B451_20 ?_)))
  obtain ⟨st3, rn3⟩ := mw_rn (rid := rid) st2 a'
  have v12 := a'.2.2 rr 4 _ (q2.2.2 rr 4 _ u1 (by omega) (by omega)) (by omega) (by omega)
  have v22 := (a'.2.1 i2 hi2).trans ((q2.2.1 i2 hi2).trans u2)
  exact loop 700 0 rfl h' E N F 0 0 [(e, env, false)] [] sp dr B hR st3 f hB (rn_tr rn2 rn3) z' (Nat.le_max_left _ _) v12 v22 (by show 0 + (0 + 0) + sp ≤ sp; omega) (by show 0 + (0 + 0) + 2 * sp ≤ 2 * sp; omega) (by show 1 + 2 * sp ≤ 1 + 2 * sp; omega) (by show 0 + sp ≤ sp; omega) hsp (by omega)
end MH
