/-! One number, one function. -/
/-- the functions in it are numbered below B, and are those that F tells of their numbers -/
def clo (F : Nat → Tr) (B : Nat) : Tr → Prop
  | .leaf => True
  | .inner k l u a b => (k = 3 → l.1 < B ∧ F l.1 = .inner k l u a b ∧ clo F B b) ∧ (k = 4 → clo F B a ∧ clo F B b)
theorem clo_up {F F' : Nat → Tr} {B B' : Nat} (hB : B ≤ B') (hF : ∀ s, s < B → F' s = F s) : ∀ {t : Tr}, clo F B t → clo F' B' t
  | .leaf, _ => trivial
  | .inner k l u a b, h => ⟨fun y => by
    obtain ⟨h1, h2, h3⟩ := h.1 y
    exact ⟨by omega, (hF _ h1).trans h2, clo_up hB hF h3⟩, fun y => ⟨clo_up hB hF (h.2 y).1, clo_up hB hF (h.2 y).2⟩⟩
theorem clo_lku {F : Nat → Tr} {B n : Nat} : ∀ {s v : Tr}, scp s = true → clo F B s → lku n s = some v → clo F B v
  | .leaf, v, _, _, h => by cases h
  | .inner k l u a b, v, hs, hc, h => by
    have hs : (k == 4 && scp b) = true := hs
    rw [Bool.and_eq_true, beq_iff_eq] at hs
    obtain ⟨h1, h2⟩ := hc.2 hs.1
    unfold lku at h
    split at h
    · cases h; exact h1
    · exact clo_lku hs.2 h2 h
theorem clo_eq {F : Nat → Tr} {B : Nat} {t t' : Tr} (h : clo F B t) (h' : clo F B t') (hc : isC t = true) (hc' : isC t' = true) (hs : stp t = stp t') : t = t' := by
  match t, t', h, h', hc, hc', hs with
  | .inner k l u a b, .inner k' l' u' a' b', h, h', hc, hc', hs =>
    have e1 := (h.1 (beq_iff_eq.mp hc)).2.1
    have e2 := (h'.1 (beq_iff_eq.mp hc')).2.1
    have hs : l.1 = l'.1 := hs
    rw [← e1, ← e2, hs]
/-- all in a finding's rows -/
def okG (GV GE : Tr → Prop) (M : Mt) : Prop := (∀ p, p ∈ M.1 → GE p.2.1) ∧ ∀ v, v ∈ M.2.1 → GV v
/-- what values and scopes must keep -/
def gcl (rid : Nat) (GV GE : Tr → Prop) : Prop := (∀ n, GV (tN n)) ∧ (∀ f, GV f → isC f = true → GE (pd f)) ∧ (∀ n v s, GV v → GE s → GE (tB n rid v s)) ∧ ∀ n s v, GE s → lku n s = some v → GV v
section GG
variable {I : Nat → Int64} {sd : Int32} {cl rid : Nat} {GV GE : Tr → Prop}
theorem okG_psh {e s : Tr} {b : Bool} {M : Mt} (h1 : GE s) (h : okG GV GE M) : okG GV GE (psh e s b M) := ⟨fun p hp => by
  rcases List.mem_cons.mp hp with y | y
  · rw [y]; exact h1
  · exact h.1 p y, h.2⟩
theorem okG_gvn {v : Tr} {M : Mt} (h1 : GV v) (h : okG GV GE M) : okG GV GE (gvn v M) := ⟨h.1, fun p hp => by
  rcases List.mem_cons.mp hp with y | y
  · rw [y]; exact h1
  · exact h.2 p y⟩
theorem mEn_G (g : gcl rid GV GE) {e s : Tr} {M M' : Mt} (h2 : GE s) (h : okG GV GE M) (hs : mEn sd cl rid e s M = some M') : okG GV GE M' ∧ M'.2.2.2.2 = M.2.2.2.2 := by
  obtain ⟨g1, g2, g3, g4⟩ := g
  obtain ⟨S, V, sp, dr, b⟩ := M
  obtain ⟨hS, hV⟩ := h
  dsimp only at hS hV
  unfold mEn at hs
  split at hs
  · match V, hV, hs with
    | v :: r, hV, hs =>
      have hs : (if isC v = true ∨ num v < 1 then none else some (S, tN (drn sd cl (dr + 1) (num v)) :: r, sp, dr + 1, b)) = some M' := hs
      split at hs
      · cases hs
      · cases hs
        exact ⟨⟨hS, fun x hx => (List.mem_cons.mp hx).elim (fun y => by rw [y]; exact g1 _) (fun y => hV x (List.mem_cons_of_mem _ y))⟩, rfl⟩
  split at hs
  · match V, hV, hs with
    | v :: u :: r, hV, hs =>
      rw [mE4_c] at hs
      split at hs
      · cases hs
      · cases hs
        exact ⟨⟨hS, fun x hx => (List.mem_cons.mp hx).elim (fun y => by rw [y]; exact g1 _) (fun y => hV x (List.mem_cons_of_mem _ (List.mem_cons_of_mem _ y)))⟩, rfl⟩
  split at hs
  · match V, hV, hs with
    | v :: r, hV, hs =>
      rw [mE5_c] at hs
      split at hs
      · cases hs
      · cases hs
        exact ⟨okG_psh h2 ⟨hS, fun x hx => hV x (List.mem_cons_of_mem _ hx)⟩, rfl⟩
  split at hs
  · match V, hV, hs with
    | v :: r, hV, hs =>
      cases hs
      exact ⟨okG_psh (g3 _ _ _ (hV v (List.mem_cons_self ..)) h2) ⟨hS, fun x hx => hV x (List.mem_cons_of_mem _ hx)⟩, rfl⟩
  split at hs
  · match V, hV, hs with
    | v :: u :: r, hV, hs =>
      rw [mE8_c] at hs
      split at hs
      next hc =>
        cases hs
        exact ⟨okG_psh (g3 _ _ _ (hV v (List.mem_cons_self ..)) (g2 u (hV u (List.mem_cons_of_mem _ (List.mem_cons_self ..))) hc)) ⟨hS, fun x hx => hV x (List.mem_cons_of_mem _ (List.mem_cons_of_mem _ hx))⟩, rfl⟩
      · cases hs
  · cases hs
theorem mBg_G (g : gcl rid GV GE) {e s : Tr} {M M' : Mt} (h2 : GE s) (h : okG GV GE M) (hs : mBg I rid e s M = some M') : (okG GV GE M' ∧ M'.2.2.2.2 = M.2.2.2.2) ∨ ∃ M1, okG GV GE M1 ∧ M1.2.2.2.2 = M.2.2.2.2 ∧ M' = mB7 rid e s M1 ∧ srt e = 7 := by
  obtain ⟨g1, g2, g3, g4⟩ := g
  obtain ⟨S, V, sp, dr, b⟩ := M
  have h : okG GV GE (S, V, sp + 1, dr, b) := h
  unfold mBg at hs
  split at hs
  rotate_left
  · cases hs
  have hs : mBh I rid e s (S, V, sp + 1, dr, b) = some M' := hs
  unfold mBh at hs
  split at hs
  · cases hs; exact Or.inl ⟨okG_gvn (g1 _) h, rfl⟩
  split at hs
  · cases hv : lku (wch e) s with
    | none => rw [hv] at hs; cases hs
    | some v =>
      rw [hv] at hs
      cases hs
      exact Or.inl ⟨okG_gvn (g4 _ _ _ h2 hv) h, rfl⟩
  split at hs
  · cases hs; exact Or.inl ⟨okG_gvn (g1 _) h, rfl⟩
  split at hs
  next g7 => cases hs; exact Or.inr ⟨_, h, rfl, rfl, g7⟩
  split at hs
  · cases hs; exact Or.inl ⟨okG_psh h2 (okG_psh h2 (okG_psh h2 h)), rfl⟩
  · cases hs; exact Or.inl ⟨okG_psh h2 (okG_psh h2 h), rfl⟩
end GG
/-- values and scopes told by F -/
def gV (F : Nat → Tr) (B : Nat) (t : Tr) : Prop := clo F B t ∧ vl9 t = true
def gE (F : Nat → Tr) (B : Nat) (t : Tr) : Prop := clo F B t ∧ vok t = true ∧ scp t = true
theorem gcl_F {F : Nat → Tr} {B rid : Nat} : gcl rid (gV F B) (gE F B) := by
  refine ⟨fun n => ⟨⟨fun y => (by cases y), fun y => (by cases y)⟩, rfl⟩, ?_, ?_, ?_⟩
  · rintro f ⟨h, hv⟩ hc
    match f, h, hv, hc with
    | .inner k l u a b, h, hv, hc =>
      have hk : k = 3 := beq_iff_eq.mp hc
      have hv := vok_3 hv hk
      exact ⟨(h.1 hk).2.2, hv.2, hv.1⟩
  · rintro n v s ⟨h1, h2⟩ ⟨h3, h4, h5⟩
    refine ⟨⟨fun y => (by cases y), fun _ => ⟨h1, h3⟩⟩, vok_B h2 h4, ?_⟩
    · show ((4 : Nat) == 4 && scp s) = true
      rw [h5]
      rfl
  · rintro n s v ⟨h1, h2, h3⟩ hv
    exact ⟨clo_lku h3 h1 hv, vok_lku h3 h2 hv⟩
theorem gV_up {F F' : Nat → Tr} {B B' : Nat} (hB : B ≤ B') (hF : ∀ s, s < B → F' s = F s) {t : Tr} (h : gV F B t) : gV F' B' t := ⟨clo_up hB hF h.1, h.2⟩
theorem gE_up {F F' : Nat → Tr} {B B' : Nat} (hB : B ≤ B') (hF : ∀ s, s < B → F' s = F s) {t : Tr} (h : gE F B t) : gE F' B' t := ⟨clo_up hB hF h.1, h.2⟩
theorem okG_up {F F' : Nat → Tr} {B B' : Nat} (hB : B ≤ B') (hF : ∀ s, s < B → F' s = F s) {M : Mt} (h : okG (gV F B) (gE F B) M) : okG (gV F' B') (gE F' B') M := ⟨fun p hp => gE_up hB hF (h.1 p hp), fun v hv => gV_up hB hF (h.2 v hv)⟩
/-- one turn, with its functions -/
theorem mTn_F {I : Nat → Int64} {sd : Int32} {cl rid : Nat} {F : Nat → Tr} {M M' : Mt} (h : okG (gV F M.2.2.2.2) (gE F M.2.2.2.2) M) (hs : mTn I sd cl rid M = some M') : ∃ F', (∀ s, s < M.2.2.2.2 → F' s = F s) ∧ M.2.2.2.2 ≤ M'.2.2.2.2 ∧ okG (gV F' M'.2.2.2.2) (gE F' M'.2.2.2.2) M' := by
  match M, h, hs with
  | (p :: r, Y), h, hs =>
    have hs : (if isL p.1 = true then none else if p.2.2 = true then mEn sd cl rid p.1 p.2.1 (r, Y) else mBg I rid p.1 p.2.1 (r, Y)) = some M' := hs
    have hp : gE F Y.2.2.2 p.2.1 := h.1 p (List.mem_cons_self ..)
    have hr : okG (gV F Y.2.2.2) (gE F Y.2.2.2) (r, Y) := ⟨fun x hx => h.1 x (List.mem_cons_of_mem _ hx), h.2⟩
    split at hs
    · cases hs
    split at hs
    · obtain ⟨k1, k2⟩ := mEn_G gcl_F hp hr hs
      have k2 : M'.2.2.2.2 = Y.2.2.2 := k2
      refine ⟨F, fun _ _ => rfl, Nat.le_of_eq k2.symm, ?_⟩
      rw [k2]; exact k1
    · rcases mBg_G gcl_F hp hr hs with ⟨k1, k2⟩ | ⟨M1, k1, k2, k3, -⟩
      · have k2 : M'.2.2.2.2 = Y.2.2.2 := k2
        refine ⟨F, fun _ _ => rfl, Nat.le_of_eq k2.symm, ?_⟩
        rw [k2]; exact k1
      · have k2 : M1.2.2.2.2 = Y.2.2.2 := k2
        obtain ⟨F', hF'⟩ : ∃ F' : Nat → Tr, F' = fun s => if s = Y.2.2.2 then tC Y.2.2.2 rid p.1 p.2.1 else F s := ⟨_, rfl⟩
        have hold : ∀ s, s < Y.2.2.2 → F' s = F s := fun s hs' => by
          rw [hF']
          exact if_neg (by omega)
        have e : M'.2.2.2.2 = Y.2.2.2 + 1 := by
          rw [k3]
          show M1.2.2.2.2 + 1 = _
          rw [k2]
        refine ⟨F', hold, by show Y.2.2.2 ≤ _; omega, ?_⟩
        rw [e, k3]
        have up := okG_up (F' := F') (B' := Y.2.2.2 + 1) (by omega) hold k1
        have hp' := gE_up (F' := F') (B' := Y.2.2.2 + 1) (by omega) hold hp
        refine okG_gvn ⟨⟨fun _ => ⟨by show M1.2.2.2.2 < _; omega, ?_, hp'.1⟩, fun y => (by cases y)⟩, vl9_C hp'.2.1 hp'.2.2⟩ ⟨up.1, up.2⟩
        · show F' M1.2.2.2.2 = tC M1.2.2.2.2 rid p.1 p.2.1
          rw [k2, hF']
          exact if_pos rfl
theorem mRn_F {I : Nat → Int64} {sd : Int32} {cl rid : Nat} : ∀ (n : Nat) (F : Nat → Tr) (M : Mt), okG (gV F M.2.2.2.2) (gE F M.2.2.2.2) M → ∃ F', (∀ s, s < M.2.2.2.2 → F' s = F s) ∧ M.2.2.2.2 ≤ (mRn I sd cl rid n M).2.2.2.2.2 ∧ okG (gV F' (mRn I sd cl rid n M).2.2.2.2.2) (gE F' (mRn I sd cl rid n M).2.2.2.2.2) (mRn I sd cl rid n M).2
  | 0, F, M, h => ⟨F, fun _ _ => rfl, Nat.le_refl _, h⟩
  | n + 1, F, ([], Y), h => by
    rw [mRn_nil]
    exact ⟨F, fun _ _ => rfl, Nat.le_refl _, h⟩
  | n + 1, F, (p :: r, Y), h => by
    rw [mRn_cons]
    cases hk : mTn I sd cl rid (p :: r, Y) with
    | none => exact ⟨F, fun _ _ => rfl, Nat.le_refl _, h⟩
    | some M' =>
      obtain ⟨F1, a1, a2, a3⟩ := mTn_F h hk
      obtain ⟨F2, b1, b2, b3⟩ := mRn_F n F1 M' a3
      exact ⟨F2, fun s hs => (b1 s (Nat.lt_of_lt_of_le hs a2)).trans (a1 s hs), Nat.le_trans a2 b2, b3⟩
theorem rnL_F {I : Nat → Int64} {sd : Int32} {cl rid : Nat} : ∀ (C : Cd) (F : Nat → Tr) (s : Tr) (K : Cd) (sp dr B : Nat), gE F B s → (∀ n v, (n, v) ∈ K → gV F B v) → ∃ F', (∀ x, x < B → F' x = F x) ∧ B ≤ (rnL I sd cl rid C s K sp dr B).2 ∧ ∀ K', (rnL I sd cl rid C s K sp dr B).1 = some K' → ∀ n v, (n, v) ∈ K' → gV F' (rnL I sd cl rid C s K sp dr B).2 v
  | [], F, s, K, sp, dr, B, _, hK => ⟨F, fun _ _ => rfl, Nat.le_refl _, fun K' h n v hm => by cases h; exact hK n v hm⟩
  | q :: C, F, s, K, sp, dr, B, hs, hK => by
    obtain ⟨F1, a1, a2, a3⟩ := mRn_F (I := I) (sd := sd) (cl := cl) (rid := rid) 700 F ([(q.2, s, false)], [], sp, dr, B) ⟨fun p hp => by rw [List.mem_singleton.mp hp]; exact hs, fun v hv => by cases hv⟩
    have one := mRn_1 (I := I) (sd := sd) (cl := cl) (rid := rid) 700 ([(q.2, s, false)], [], sp, dr, B)
    unfold rnL
    obtain ⟨M, hM⟩ : ∃ M, M = mRn I sd cl rid 700 ([(q.2, s, false)], [], sp, dr, B) := ⟨_, rfl⟩
    rw [← hM] at a2 a3 one ⊢
    have a1 : ∀ x, x < B → F1 x = F x := a1
    have a2 : B ≤ M.2.2.2.2.2 := a2
    split
    next g =>
      have hv : gV F1 M.2.2.2.2.2 (hd1 M.2.2.1) := by
        have h1 := one g
        match hx : M.2.2.1, h1 with
        | [v], _ => exact a3.2 v (by rw [hx]; exact List.mem_cons_self ..)
      obtain ⟨F2, b1, b2, b3⟩ := rnL_F C F1 (tB q.1 rid (hd1 M.2.2.1) s) (K ++ [(q.1, hd1 M.2.2.1)]) M.2.2.2.1 M.2.2.2.2.1 M.2.2.2.2.2 (gcl_F.2.2.1 _ _ _ hv (gE_up a2 a1 hs)) (fun n v hm => by
        rcases List.mem_append.mp hm with y | y
        · exact gV_up a2 a1 (hK n v y)
        · have y := List.mem_singleton.mp y
          cases y
          exact hv)
      exact ⟨F2, fun x hx => (b1 x (Nat.lt_of_lt_of_le hx a2)).trans (a1 x hx), Nat.le_trans a2 b2, b3⟩
    · exact ⟨F1, a1, a2, fun K' h => by cases h⟩
theorem enW_F {F : Nat → Tr} {B m rid : Nat} {W : Nat → Option Tr} : ∀ n, (∀ k v, k < n → m.testBit k = true → W k = some v → gV F B v) → gE F B (enW m W rid n).1
  | 0, _ => ⟨trivial, rfl, rfl⟩
  | n + 1, h => by
    have ih := enW_F (F := F) (B := B) (m := m) (rid := rid) (W := W) n (fun k v hk => h k v (by omega))
    by_cases hb : m.testBit n = true
    · cases hw : W n with
      | none => rw [enW_0 hb hw]; exact ih
      | some v => rw [enW_1 hb hw]; exact gcl_F.2.2.1 _ _ _ (h n v (by omega) hb hw) ih
    · rw [enW_n hb]; exact ih
/-- a run's functions have numbers of their own -/
theorem outC_F {C : Cd} {I : Nat → Int64} {sd : Int32} {cl B rid : Nat} {W : Nat → Option Tr} {F : Nat → Tr} (h : ∀ k v, k < 16 → (rds C).testBit k = true → W k = some v → gV F B v) : ∃ F', (∀ x, x < B → F' x = F x) ∧ B ≤ (outC C I sd cl W B rid).2.2 ∧ ∀ n v, (n, v) ∈ (outC C I sd cl W B rid).2.1 → gV F' (outC C I sd cl W B rid).2.2 v := by
  obtain ⟨F', a1, a2, a3⟩ := rnL_F (I := I) (sd := sd) (cl := cl) (rid := rid) C F (enW (rds C) W rid 16).1 [] 0 0 B (enW_F 16 h) (fun n v y => by cases y)
  unfold outC
  split
  · cases hk : (rnL I sd cl rid C (enW (rds C) W rid 16).1 [] 0 0 B).1 with
    | none => exact ⟨F', a1, a2, fun n v y => by cases y⟩
    | some K => exact ⟨F', a1, a2, a3 K hk⟩
  · exact ⟨F, fun _ _ => rfl, Nat.le_refl _, fun n v y => by cases y⟩
/-- names are kept as they are defined -/
theorem rnL_n {I : Nat → Int64} {sd : Int32} {cl rid : Nat} : ∀ (C : Cd) (s : Tr) (K : Cd) (sp dr B : Nat) (K' : Cd), (rnL I sd cl rid C s K sp dr B).1 = some K' → K'.map (fun q => q.1) = K.map (fun q => q.1) ++ C.map (fun q => q.1)
  | [], s, K, sp, dr, B, K', h => by cases h; simp
  | q :: C, s, K, sp, dr, B, K', h => by
    unfold rnL at h
    split at h
    · rw [rnL_n C _ _ _ _ _ K' h]
      simp
    · cases h
theorem outC_n {C : Cd} {I : Nat → Int64} {sd : Int32} {cl B rid : Nat} {W : Nat → Option Tr} : ((outC C I sd cl W B rid).1 = 0 ∧ (outC C I sd cl W B rid).2.1.map (fun q => q.1) = C.map (fun q => q.1)) ∨ (((outC C I sd cl W B rid).1 = 4 ∨ (outC C I sd cl W B rid).1 = 5) ∧ (outC C I sd cl W B rid).2.1 = []) := by
  unfold outC
  split
  · cases hk : (rnL I sd cl rid C (enW (rds C) W rid 16).1 [] 0 0 B).1 with
    | none => exact Or.inr ⟨Or.inl rfl, rfl⟩
    | some K => exact Or.inl ⟨rfl, by have := rnL_n C _ _ _ _ _ K hk; simpa using this⟩
  · exact Or.inr ⟨Or.inr rfl, rfl⟩
