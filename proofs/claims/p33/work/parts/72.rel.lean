/-! Two findings side by side. -/
def lS (RC RE : Tr → Tr → Prop) : List (Tr × Tr × Bool) → List (Tr × Tr × Bool) → Prop
  | [], [] => True
  | p :: r, p' :: r' => (RC p.1 p'.1 ∧ RE p.2.1 p'.2.1 ∧ p.2.2 = p'.2.2) ∧ lS RC RE r r'
  | _, _ => False
def lV (RV : Tr → Tr → Prop) : List Tr → List Tr → Prop
  | [], [] => True
  | v :: r, v' :: r' => RV v v' ∧ lV RV r r'
  | _, _ => False
theorem lV_len {RV : Tr → Tr → Prop} : ∀ {l l' : List Tr}, lV RV l l' → l.length = l'.length
  | [], [], _ => rfl
  | v :: r, v' :: r', h => by rw [List.length_cons, List.length_cons, lV_len h.2]
  | [], _ :: _, h => absurd h id
  | _ :: _, [], h => absurd h id
/-- what the relations must keep -/
def lrw (I I' : Nat → Int64) (sd sd' : Int32) (rid rid' B B' : Nat) (RV RE RC : Tr → Tr → Prop) : Prop :=
  (∀ e e', RC e e' → srt e = srt e' ∧ wch e = wch e' ∧ num e = num e' ∧ isL e = isL e' ∧ RC (pa e) (pa e') ∧ RC (pb e) (pb e') ∧ RC (pc e) (pc e')) ∧
  (∀ e e', RC e e' → srt e = 2 → I (wch e) = I' (wch e)) ∧ (∀ e e', RC e e' → srt e = 3 → sd = sd') ∧ (∀ n, RV (tN n) (tN n)) ∧
  (∀ v v', RV v v' → isC v = isC v' ∧ (¬ isC v = true → num v = num v')) ∧ (∀ v v', RV v v' → isC v = true → RC (pa v) (pa v') ∧ RE (pd v) (pd v')) ∧
  (∀ e e' s s' k, RC e e' → RE s s' → srt e = 7 → RV (tC (B + k) rid e s) (tC (B' + k) rid' e' s')) ∧
  (∀ n v v' s s', RV v v' → RE s s' → RE (tB n rid v s) (tB n rid' v' s')) ∧
  ∀ n s s', RE s s' → (lku n s = none ∧ lku n s' = none) ∨ ∃ v v', lku n s = some v ∧ lku n s' = some v' ∧ RV v v'
def lM (B B' : Nat) (RV RE RC : Tr → Tr → Prop) (M M' : Mt) : Prop := lS RC RE M.1 M'.1 ∧ lV RV M.2.1 M'.2.1 ∧ M.2.2.1 = M'.2.2.1 ∧ M.2.2.2.1 = M'.2.2.2.1 ∧ ∃ k, M.2.2.2.2 = B + k ∧ M'.2.2.2.2 = B' + k
def lO (B B' : Nat) (RV RE RC : Tr → Tr → Prop) (o o' : Option Mt) : Prop := (o = none ∧ o' = none) ∨ ∃ M M', o = some M ∧ o' = some M' ∧ lM B B' RV RE RC M M'
section LR
variable {I I' : Nat → Int64} {sd sd' : Int32} {cl rid rid' B B' : Nat} {RV RE RC : Tr → Tr → Prop}
theorem lO_n : lO B B' RV RE RC none none := Or.inl ⟨rfl, rfl⟩
theorem lO_s {M M' : Mt} (h : lM B B' RV RE RC M M') : lO B B' RV RE RC (some M) (some M') := Or.inr ⟨M, M', rfl, rfl, h⟩
theorem lM_psh {e e' s s' : Tr} {b : Bool} {M M' : Mt} (h1 : RC e e') (h2 : RE s s') (h : lM B B' RV RE RC M M') : lM B B' RV RE RC (psh e s b M) (psh e' s' b M') := ⟨⟨⟨h1, h2, rfl⟩, h.1⟩, h.2⟩
theorem lM_gvn {v v' : Tr} {M M' : Mt} (h1 : RV v v') (h : lM B B' RV RE RC M M') : lM B B' RV RE RC (gvn v M) (gvn v' M') := ⟨h.1, ⟨h1, h.2.1⟩, h.2.2⟩
theorem mEn_R (w : lrw I I' sd sd' rid rid' B B' RV RE RC) {e e' s s' : Tr} {M M' : Mt} (h1 : RC e e') (h2 : RE s s') (h : lM B B' RV RE RC M M') : lO B B' RV RE RC (mEn sd cl rid e s M) (mEn sd' cl rid' e' s' M') := by
  obtain ⟨w1, w2, w3, w4, w5, w6, w7, w8, w9⟩ := w
  obtain ⟨r1, r2, r3, r4, r5, r6, r7⟩ := w1 e e' h1
  obtain ⟨S, V, sp, dr, b⟩ := M
  obtain ⟨S', V', sp', dr', b'⟩ := M'
  obtain ⟨hS, hV, h3, h4, h5⟩ := h
  dsimp only at hS hV h3 h4 h5
  subst h3; subst h4
  unfold mEn
  rw [← r1]
  split
  next g =>
    match V, V', hV with
    | [], [], _ => exact lO_n
    | v :: r, v' :: r', hV =>
      obtain ⟨k1, k2⟩ := w5 _ _ hV.1
      show lO B B' RV RE RC (if isC v = true ∨ num v < 1 then none else some _) (if isC v' = true ∨ num v' < 1 then none else some _)
      by_cases hc : isC v = true
      · rw [if_pos (Or.inl hc), if_pos (Or.inl (k1 ▸ hc))]
        exact lO_n
      · rw [← k1, ← k2 hc]
        split
        · exact lO_n
        · rw [← w3 e e' h1 g]
          exact lO_s ⟨hS, ⟨w4 _, hV.2⟩, rfl, rfl, h5⟩
  next g =>
  split
  next g4 =>
    rw [← r2]
    match V, V', hV with
    | [], [], _ => exact lO_n
    | [v], [v'], _ => exact lO_n
    | v :: u :: r, v' :: u' :: r', hV =>
      obtain ⟨k1, k2⟩ := w5 _ _ hV.1
      obtain ⟨k3, k4⟩ := w5 _ _ hV.2.1
      rw [mE4_c, mE4_c, ← k1, ← k3]
      split
      · exact lO_n
      next hh =>
        rw [← k2 (fun y => hh (Or.inl y)), ← k4 (fun y => hh (Or.inr y))]
        exact lO_s ⟨hS, ⟨w4 _, hV.2.2⟩, rfl, rfl, h5⟩
  next g4 =>
  split
  next g5 =>
    match V, V', hV with
    | [], [], _ => exact lO_n
    | v :: r, v' :: r', hV =>
      obtain ⟨k1, k2⟩ := w5 _ _ hV.1
      rw [mE5_c, mE5_c, ← k1]
      split
      · exact lO_n
      next hh =>
        rw [← k2 hh]
        refine lO_s (lM_psh ?_ h2 ⟨hS, hV.2, rfl, rfl, h5⟩)
        split
        · exact r7
        · exact r6
  next g5 =>
  split
  next g6 =>
    rw [← r2]
    match V, V', hV with
    | [], [], _ => exact lO_n
    | v :: r, v' :: r', hV => exact lO_s (lM_psh r6 (w8 _ _ _ _ _ hV.1 h2) ⟨hS, hV.2, rfl, rfl, h5⟩)
  next g6 =>
  split
  next g8 =>
    match V, V', hV with
    | [], [], _ => exact lO_n
    | [v], [v'], _ => exact lO_n
    | v :: u :: r, v' :: u' :: r', hV =>
      obtain ⟨k3, -⟩ := w5 _ _ hV.2.1
      rw [mE8_c, mE8_c, ← k3]
      split
      next hh =>
        obtain ⟨y1, y2⟩ := w6 _ _ hV.2.1 hh
        obtain ⟨q1, q2, q3, q4, q5, q6, q7⟩ := w1 _ _ y1
        rw [← q2]
        exact lO_s (lM_psh q6 (w8 _ _ _ _ _ hV.1 y2) ⟨hS, hV.2.2, rfl, rfl, h5⟩)
      · exact lO_n
  · exact lO_n
theorem mBg_R (w : lrw I I' sd sd' rid rid' B B' RV RE RC) {e e' s s' : Tr} {M M' : Mt} (h1 : RC e e') (h2 : RE s s') (h : lM B B' RV RE RC M M') : lO B B' RV RE RC (mBg I rid e s M) (mBg I' rid' e' s' M') := by
  obtain ⟨w1, w2, w3, w4, w5, w6, w7, w8, w9⟩ := w
  obtain ⟨r1, r2, r3, r4, r5, r6, r7⟩ := w1 e e' h1
  obtain ⟨S, V, sp, dr, b⟩ := M
  obtain ⟨S', V', sp', dr', b'⟩ := M'
  obtain ⟨hS, hV, h3, h4, h5⟩ := h
  dsimp only at hS hV h3 h4 h5
  subst h3; subst h4
  have hM : lM B B' RV RE RC (S, V, sp + 1, dr, b) (S', V', sp + 1, dr, b') := ⟨hS, hV, rfl, rfl, h5⟩
  unfold mBg
  show lO B B' RV RE RC (if sp < 300 then mBh I rid e s (S, V, sp + 1, dr, b) else none) (if sp < 300 then mBh I' rid' e' s' (S', V', sp + 1, dr, b') else none)
  split
  rotate_left
  · exact lO_n
  unfold mBh
  rw [← r1]
  split
  next g => rw [← r3]; exact lO_s (lM_gvn (w4 _) hM)
  next g =>
  split
  next g1 =>
    rw [← r2]
    rcases w9 (wch e) s s' h2 with ⟨y1, y2⟩ | ⟨v, v', y1, y2, y3⟩
    · rw [y1, y2]; exact lO_n
    · rw [y1, y2]; exact lO_s (lM_gvn y3 hM)
  next g1 =>
  split
  next g2 => rw [← r2, w2 e e' h1 g2]; exact lO_s (lM_gvn (w4 _) hM)
  next g2 =>
  split
  next g7 =>
    obtain ⟨k, h5, h6⟩ := h5
    subst h5; subst h6
    exact lO_s (lM_gvn (w7 _ _ _ _ _ h1 h2 g7) ⟨hS, hV, rfl, rfl, ⟨k + 1, rfl, rfl⟩⟩)
  next g7 =>
  split
  · exact lO_s (lM_psh r5 h2 (lM_psh r6 h2 (lM_psh h1 h2 hM)))
  · exact lO_s (lM_psh r5 h2 (lM_psh h1 h2 hM))
theorem mRn_R (w : lrw I I' sd sd' rid rid' B B' RV RE RC) : ∀ (n : Nat) (M M' : Mt), lM B B' RV RE RC M M' → (mRn I sd cl rid n M).1 = (mRn I' sd' cl rid' n M').1 ∧ lM B B' RV RE RC (mRn I sd cl rid n M).2 (mRn I' sd' cl rid' n M').2
  | 0, M, M', h => ⟨rfl, h⟩
  | n + 1, ([], Y), ([], Y'), h => by
    rw [mRn_nil, mRn_nil]
    refine ⟨?_, h⟩
    show decide (Y.1.length = 1) = decide (Y'.1.length = 1)
    rw [lV_len h.2.1]
  | n + 1, ([], Y), (_ :: _, Y'), h => absurd h.1 id
  | n + 1, (_ :: _, Y), ([], Y'), h => absurd h.1 id
  | n + 1, (p :: r, Y), (p' :: r', Y'), h => by
    have key : lO B B' RV RE RC (mTn I sd cl rid (p :: r, Y)) (mTn I' sd' cl rid' (p' :: r', Y')) := by
      obtain ⟨⟨⟨a1, a2, a3⟩, hS⟩, h'⟩ := h
      show lO B B' RV RE RC (if isL p.1 = true then none else if p.2.2 = true then mEn sd cl rid p.1 p.2.1 (r, Y) else mBg I rid p.1 p.2.1 (r, Y)) (if isL p'.1 = true then none else if p'.2.2 = true then mEn sd' cl rid' p'.1 p'.2.1 (r', Y') else mBg I' rid' p'.1 p'.2.1 (r', Y'))
      rw [← (w.1 _ _ a1).2.2.2.1, ← a3]
      split
      · exact lO_n
      · split
        · exact mEn_R w a1 a2 ⟨hS, h'⟩
        · exact mBg_R w a1 a2 ⟨hS, h'⟩
    rw [mRn_cons, mRn_cons]
    rcases key with ⟨k1, k2⟩ | ⟨N, N', k1, k2, k3⟩
    · rw [k1, k2]; exact ⟨rfl, h⟩
    · rw [k1, k2]; exact mRn_R w n N N' k3
/-- what is kept, side by side -/
def lK (RV : Tr → Tr → Prop) : Cd → Cd → Prop
  | [], [] => True
  | q :: r, q' :: r' => (q.1 = q'.1 ∧ RV q.2 q'.2) ∧ lK RV r r'
  | _, _ => False
theorem lK_app {RV : Tr → Tr → Prop} {n : Nat} {v v' : Tr} (hv : RV v v') : ∀ {K K' : Cd}, lK RV K K' → lK RV (K ++ [(n, v)]) (K' ++ [(n, v')])
  | [], [], _ => ⟨⟨rfl, hv⟩, trivial⟩
  | q :: r, q' :: r', h => ⟨h.1, lK_app hv h.2⟩
  | [], _ :: _, h => absurd h id
  | _ :: _, [], h => absurd h id
def lKo (RV : Tr → Tr → Prop) (o o' : Option Cd) : Prop := (o = none ∧ o' = none) ∨ ∃ K K', o = some K ∧ o' = some K' ∧ lK RV K K'
theorem hd1_R {RV : Tr → Tr → Prop} (w4 : ∀ n, RV (tN n) (tN n)) {l l' : List Tr} (h : lV RV l l') (h1 : l.length = 1) : RV (hd1 l) (hd1 l') := by
  match l, l', h with
  | [v], [v'], h => exact h.1
/-- it succeeds with one value -/
theorem mRn_1 {I : Nat → Int64} {sd : Int32} {cl rid : Nat} : ∀ (n : Nat) (M : Mt), (mRn I sd cl rid n M).1 = true → (mRn I sd cl rid n M).2.2.1.length = 1
  | 0, M, h => by cases h
  | n + 1, ([], Y), h => by
    rw [mRn_nil] at h ⊢
    exact of_decide_eq_true h
  | n + 1, (p :: r, Y), h => by
    rw [mRn_cons] at h ⊢
    cases hk : mTn I sd cl rid (p :: r, Y) with
    | none => rw [hk] at h; cases h
    | some M' =>
      rw [hk] at h
      exact mRn_1 n M' h
theorem rnL_R (w : lrw I I' sd sd' rid rid' B B' RV RE RC) : ∀ (C C' : Cd), lK RC C C' → ∀ (s s' : Tr) (K K' : Cd) (sp dr k : Nat), RE s s' → lK RV K K' → lKo RV (rnL I sd cl rid C s K sp dr (B + k)).1 (rnL I' sd' cl rid' C' s' K' sp dr (B' + k)).1 ∧ ∃ k', (rnL I sd cl rid C s K sp dr (B + k)).2 = B + k' ∧ (rnL I' sd' cl rid' C' s' K' sp dr (B' + k)).2 = B' + k'
  | [], [], _, s, s', K, K', sp, dr, k, _, hK => ⟨Or.inr ⟨K, K', rfl, rfl, hK⟩, k, rfl, rfl⟩
  | [], _ :: _, h, _, _, _, _, _, _, _, _, _ => absurd h id
  | _ :: _, [], h, _, _, _, _, _, _, _, _, _ => absurd h id
  | q :: C, q' :: C', h, s, s', K, K', sp, dr, k, hs, hK => by
    obtain ⟨n, e⟩ := q
    obtain ⟨n', e'⟩ := q'
    obtain ⟨⟨hn, he⟩, hC⟩ := h
    dsimp only at hn he
    subst hn
    have key := mRn_R (cl := cl) w 700 ([(e, s, false)], [], sp, dr, B + k) ([(e', s', false)], [], sp, dr, B' + k) ⟨⟨⟨he, hs, rfl⟩, trivial⟩, trivial, rfl, rfl, ⟨k, rfl, rfl⟩⟩
    have one := mRn_1 (I := I) (sd := sd) (cl := cl) (rid := rid) 700 ([(e, s, false)], [], sp, dr, B + k)
    unfold rnL
    dsimp only
    obtain ⟨M, hM⟩ : ∃ M, M = mRn I sd cl rid 700 ([(e, s, false)], [], sp, dr, B + k) := ⟨_, rfl⟩
    obtain ⟨M', hM'⟩ : ∃ M, M = mRn I' sd' cl rid' 700 ([(e', s', false)], [], sp, dr, B' + k) := ⟨_, rfl⟩
    rw [← hM] at key one ⊢
    rw [← hM'] at key ⊢
    obtain ⟨f, S, V, sp1, dr1, b1⟩ := M
    obtain ⟨f', S', V', sp1', dr1', b1'⟩ := M'
    obtain ⟨k1, k2, k3, k4, k5, k6, k7, k8⟩ := key
    dsimp only at k1 k2 k3 k4 k5 k6 k7 k8 one ⊢
    subst k1; subst k4; subst k5; subst k7; subst k8
    split
    next g =>
      have hv := hd1_R w.2.2.2.1 k3 (one g)
      exact rnL_R w C C' hC _ _ _ _ _ _ k6 (w.2.2.2.2.2.2.2.1 _ _ _ _ _ hv hs) (lK_app hv hK)
    · exact ⟨Or.inl ⟨rfl, rfl⟩, k6, rfl, rfl⟩
end LR
