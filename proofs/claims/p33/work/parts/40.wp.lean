/-! More fuel, more locals: the walk stays what it was. -/
def re_sb (lv lv' : List (Nat × Value)) : Prop := ∀ (i : Nat) (v : Value), re_lk lv i = some v → re_lk lv' i = some v
def re_isL : Instr → Bool
  | .iload _ => true
  | .iload_n _ => true
  | .lload _ => true
  | .lload_n _ => true
  | .aload _ => true
  | .aload_n _ => true
  | .iinc _ _ => true
  | _ => false
theorem re_sb_c2 {lv lv' : List (Nat × Value)} (hs : re_sb lv lv') {j : Nat} {u : Value} (h : re_lk lv j = some u) : re_c2 lv j = re_c2 lv' j := by
  rw [re_c2_some h, re_c2_some (hs j u h)]
theorem re_sb_cons {lv lv' : List (Nat × Value)} (i : Nat) (v : Value) (hs : re_sb lv lv') : re_sb ((i, v) :: lv) ((i, v) :: lv') := by
  intro j u hj
  rw [re_lk_cons] at hj ⊢
  split at hj
  next e => rw [if_pos e]; exact hj
  next e => rw [if_neg e]; exact hs j u hj
theorem re_sb_filter {lv lv' : List (Nat × Value)} (p p' : Nat → Bool) (hp : ∀ (j : Nat) (u : Value), re_lk lv j = some u → p j = true → p' j = true) (hs : re_sb lv lv') : re_sb (lv.filter (fun q => p q.1)) (lv'.filter (fun q => p' q.1)) := by
  intro j u hj
  rw [re_lk_filter] at hj ⊢
  split at hj
  next e => rw [if_pos (hp j u hj e)]; exact hs j u hj
  next => cases hj
theorem re_sb_s1 {lv lv' : List (Nat × Value)} (i : Nat) (v : Value) (hs : re_sb lv lv') : re_sb (re_s1 lv i v) (re_s1 lv' i v) :=
  re_sb_cons i v (re_sb_filter (fun j => !(j == i) && !(j + 1 == i && re_c2 lv j)) (fun j => !(j == i) && !(j + 1 == i && re_c2 lv' j)) (fun j u h1 h2 => by
    rw [← re_sb_c2 hs h1]
    exact h2) hs)
theorem re_sb_s2 {lv lv' : List (Nat × Value)} (i : Nat) (v : Value) (hs : re_sb lv lv') : re_sb (re_s2 lv i v) (re_s2 lv' i v) :=
  re_sb_cons i v (re_sb_filter (fun j => !(j == i) && (!(j == i + 1) && !(j + 1 == i && re_c2 lv j))) (fun j => !(j == i) && (!(j == i + 1) && !(j + 1 == i && re_c2 lv' j))) (fun j u h1 h2 => by
    rw [← re_sb_c2 hs h1]
    exact h2) hs)
theorem re_sb_9 {lv lv' : List (Nat × Value)} (i : Nat) (hs : re_sb lv lv') : re_sb (re_lv9 lv i) (re_lv9 lv' i) :=
  re_sb_filter (fun j => !(j == i) && !(j + 1 == i && re_c2 lv j)) (fun j => !(j == i) && !(j + 1 == i && re_c2 lv' j)) (fun j u h1 h2 => by
    rw [← re_sb_c2 hs h1]
    exact h2) hs
theorem re_pure_sb {O : re_O} {nL pc : Nat} {lv lv' : List (Nat × Value)} {st : List Value} {ins : Instr} {q : Nat × List (Nat × Value) × List Value} (hs : re_sb lv lv') (h : re_pure O nL pc lv st ins = some q) : ∃ lv2, re_pure O nL pc lv' st ins = some (q.1, lv2, q.2.2) ∧ re_sb q.2.1 lv2 := by
  cases ins
  case iload i =>
    simp only [re_pure] at h ⊢
    split at h
    next x e => cases h; rw [hs _ _ e]; exact ⟨_, rfl, hs⟩
    next x e => cases h; rw [hs _ _ e]; exact ⟨_, rfl, hs⟩
    next => cases h
  case iload_n i =>
    simp only [re_pure] at h ⊢
    split at h
    next x e => cases h; rw [hs _ _ e]; exact ⟨_, rfl, hs⟩
    next x e => cases h; rw [hs _ _ e]; exact ⟨_, rfl, hs⟩
    next => cases h
  case lload i =>
    simp only [re_pure] at h ⊢
    split at h
    next x e => cases h; rw [hs _ _ e]; exact ⟨_, rfl, hs⟩
    next x e => cases h; rw [hs _ _ e]; exact ⟨_, rfl, hs⟩
    next => cases h
  case lload_n i =>
    simp only [re_pure] at h ⊢
    split at h
    next x e => cases h; rw [hs _ _ e]; exact ⟨_, rfl, hs⟩
    next x e => cases h; rw [hs _ _ e]; exact ⟨_, rfl, hs⟩
    next => cases h
  case aload i =>
    simp only [re_pure] at h ⊢
    split at h
    next x e => cases h; rw [hs _ _ e]; exact ⟨_, rfl, hs⟩
    next e => cases h; rw [hs _ _ e]; exact ⟨_, rfl, hs⟩
    next x e => cases h; rw [hs _ _ e]; exact ⟨_, rfl, hs⟩
    next => cases h
  case aload_n i =>
    simp only [re_pure] at h ⊢
    split at h
    next x e => cases h; rw [hs _ _ e]; exact ⟨_, rfl, hs⟩
    next e => cases h; rw [hs _ _ e]; exact ⟨_, rfl, hs⟩
    next x e => cases h; rw [hs _ _ e]; exact ⟨_, rfl, hs⟩
    next => cases h
  case iinc i n =>
    simp only [re_pure] at h ⊢
    split at h
    next x e =>
      rw [hs _ _ e]
      dsimp only
      split at h
      next e2 => cases h; rw [if_pos e2]; exact ⟨_, rfl, re_sb_s1 _ _ hs⟩
      next => cases h
    next => cases h
  all_goals
    simp only [re_pure] at h ⊢
    first
    | (cases h; exact ⟨_, rfl, hs⟩)
    | (repeat' split at h) <;> first
      | (cases h; done)
      | (cases h; exact ⟨_, rfl, hs⟩)
      | (cases h; exact ⟨_, rfl, re_sb_s1 _ _ hs⟩)
      | (cases h; exact ⟨_, rfl, re_sb_s2 _ _ hs⟩)
      | (cases h; simp only [*]; exact ⟨_, rfl, hs⟩)
      | (cases h; simp only [*, if_true]; exact ⟨_, rfl, re_sb_s1 _ _ hs⟩)
      | (cases h; simp only [*, if_true]; exact ⟨_, rfl, re_sb_s2 _ _ hs⟩)
      | (cases h; simp only [*, if_true, if_false]; exact ⟨_, rfl, hs⟩)
theorem re_pure_no {O : re_O} {nL pc : Nat} {lv lv' : List (Nat × Value)} {st : List Value} {ins : Instr} (hi : re_isL ins = false) (h : re_pure O nL pc lv st ins = none) : re_pure O nL pc lv' st ins = none := by
  cases ins
  case iload i => cases hi
  case iload_n i => cases hi
  case lload i => cases hi
  case lload_n i => cases hi
  case aload i => cases hi
  case aload_n i => cases hi
  case iinc i n => cases hi
  all_goals
    simp only [re_pure] at h ⊢
    first
    | done
    | (cases h; done)
    | exact h
    | (repeat' split at h) <;> first
      | (cases h; done)
      | rfl
      | (simp only [*]; done)
      | (simp only [*, if_false]; done)
      | (simp only [*, if_true]; done)
theorem re_map_some {α β : Type} {f : α → β} {a b : Option α} {r : β} (h : a.map f = some r) (hab : ∀ x, a = some x → b = some x) : b.map f = some r := by
  cases a with
  | none => cases h
  | some x => rw [hab x rfl]; exact h
theorem re_isL_none {O : re_K} {G : re_G} {n y pc : Nat} {lv : List (Nat × Value)} {st : List Value} {h : re_H} {ins : Instr} {r : re_Res} (h0 : re_tw G y pc = none) (h1 : re_ins G y pc = some ins) (h2 : re_pure O.1 (re_nl G y) pc lv st ins = none) (hi : re_isL ins = true) : ¬ re_go G O (n + 1) y pc lv st h = some r := by
  intro z
  rw [re_go.eq_def] at z
  simp only [h0, h1, h2] at z
  cases ins <;> first | (cases hi; done) | (simp [re_hp, re_ret, re_mk, re_cst, re_acm, re_ora, re_scr, re_jdk, re_inv] at z; done)
theorem re_more {G : re_G} {O : re_K} : ∀ (n m y pc : Nat) (lv lv' : List (Nat × Value)) (st : List Value) (h : re_H) (r : re_Res), n ≤ m → re_sb lv lv' → re_go G O n y pc lv st h = some r → re_go G O m y pc lv' st h = some r := by
  intro n
  induction n with
  | zero => intro m y pc lv lv' st h r _ _ z; cases z
  | succ n ih =>
    intro m y pc lv lv' st h r hm hs hgo
    obtain ⟨m, rfl⟩ : ∃ k, m = k + 1 := ⟨m - 1, by omega⟩
    have hnm : n ≤ m := by omega
    have hid : ∀ {a : List (Nat × Value)}, re_sb a a := fun i v z => z
    have hgo0 := hgo
    rw [re_go.eq_def] at hgo ⊢
    dsimp only at hgo ⊢
    cases htw : re_tw G y pc with
    | some x => rw [htw] at hgo; exact hgo
    | none =>
    rw [htw] at hgo
    dsimp only at hgo ⊢
    cases hins : re_ins G y pc with
    | none => rw [hins] at hgo; cases hgo
    | some ins =>
    rw [hins] at hgo
    dsimp only at hgo ⊢
    cases hp : re_pure O.1 (re_nl G y) pc lv st ins with
    | some q =>
      obtain ⟨lv2, e1, e2⟩ := re_pure_sb hs hp
      rw [hp] at hgo
      rw [e1]
      exact ih m y _ _ _ _ _ r hnm e2 hgo
    | none =>
    have hL : re_isL ins = false := by
      cases hz : re_isL ins with
      | false => rfl
      | true => exact absurd hgo0 (re_isL_none htw hins hp hz)
    rw [hp] at hgo
    rw [re_pure_no hL hp]
    dsimp only at hgo ⊢
    cases h2 : re_hp (re_nE G) (re_fl G y) (re_ec G) (re_isI G y) pc st h ins with
    | some q => rw [h2] at hgo; exact ih m y _ _ _ _ _ r hnm hs hgo
    | none =>
    rw [h2] at hgo
    dsimp only at hgo ⊢
    cases h3 : re_ret (re_rt G y) ins st with
    | some q => rw [h3] at hgo; exact hgo
    | none =>
    rw [h3] at hgo
    dsimp only at hgo ⊢
    cases h4 : re_mk (re_nw G y) (re_an G y) pc st h.1 ins with
    | some q => rw [h4] at hgo; exact re_map_some hgo (fun x hx => ih m y _ _ _ _ _ x hnm hs hx)
    | none =>
    rw [h4] at hgo
    dsimp only at hgo ⊢
    cases h5 : re_cst (re_ks G y) pc ins with
    | some q => rw [h5] at hgo; exact ih m y _ _ _ _ _ r hnm hs hgo
    | none =>
    rw [h5] at hgo
    dsimp only at hgo ⊢
    cases h6 : re_acm pc st ins with
    | some q => rw [h6] at hgo; exact ih m y _ _ _ _ _ r hnm hs hgo
    | none =>
    rw [h6] at hgo
    dsimp only at hgo ⊢
    cases h7 : re_ora O.2.1 pc st ins with
    | some q => rw [h7] at hgo; exact ih m y _ _ _ _ _ r hnm hs hgo
    | none =>
    rw [h7] at hgo
    dsimp only at hgo ⊢
    cases h8 : re_scr O.2.2.1 pc st ins with
    | some q => rw [h8] at hgo; exact ih m y _ _ _ _ _ r hnm hs hgo
    | none =>
    rw [h8] at hgo
    dsimp only at hgo ⊢
    cases h9 : re_jdk (re_jd G y) pc st ins with
    | some q => rw [h9] at hgo; exact re_map_some hgo (fun x hx => ih m y _ _ _ _ _ x hnm hs hx)
    | none =>
    rw [h9] at hgo
    dsimp only at hgo ⊢
    cases h10 : re_inv (re_cl G y) ins with
    | none => rw [h10] at hgo; cases hgo
    | some q9 =>
    obtain ⟨k, y', na⟩ := q9
    rw [h10] at hgo
    dsimp only at hgo ⊢
    have hafter : ∀ (a : re_Res) (rest : List Value), (if a.1 < 4 then (re_go G O n y (pc + 3) lv (re_vl a rest) a.2.2.1).map (re_aft (re_nl G y') a) else (match re_hf (re_hk G y) pc (a.1 - 4) (re_hh G y) with
                      | some none => some (re_aft (re_nl G y') a (a.1, a.2.1, a.2.2.1, 0, 0, 0, 0))
                      | some (some hp) => (match re_hs (re_nl G y) (re_ins G y hp) hp with
                        | some (k, npc) => (re_go G O n y npc (re_lv9 lv k) [] a.2.2.1).map (re_aft (re_nl G y') a)
                        | none => none)
                      | none => none)) = some r → (if a.1 < 4 then (re_go G O m y (pc + 3) lv' (re_vl a rest) a.2.2.1).map (re_aft (re_nl G y') a) else (match re_hf (re_hk G y) pc (a.1 - 4) (re_hh G y) with
                      | some none => some (re_aft (re_nl G y') a (a.1, a.2.1, a.2.2.1, 0, 0, 0, 0))
                      | some (some hp) => (match re_hs (re_nl G y) (re_ins G y hp) hp with
                        | some (k, npc) => (re_go G O m y npc (re_lv9 lv' k) [] a.2.2.1).map (re_aft (re_nl G y') a)
                        | none => none)
                      | none => none)) = some r := by
      intro a rest z
      rcases Nat.decLt a.1 4 with ha | ha
      · rw [if_neg ha] at z ⊢
        cases hf : re_hf (re_hk G y) pc (a.1 - 4) (re_hh G y) with
        | none => rw [hf] at z; cases z
        | some o =>
          cases o with
          | none => rw [hf] at z; exact z
          | some hp9 =>
            rw [hf] at z
            dsimp only at z ⊢
            cases hg : re_hs (re_nl G y) (re_ins G y hp9) hp9 with
            | none => rw [hg] at z; cases z
            | some w =>
              obtain ⟨k8, npc⟩ := w
              rw [hg] at z
              exact re_map_some z (fun x hx => ih m y _ _ _ _ _ x hnm (re_sb_9 _ hs) hx)
      · rw [if_pos ha] at z ⊢
        exact re_map_some z (fun x hx => ih m y _ _ _ _ _ x hnm hs hx)
    split at hgo
    next hk3 =>
      rw [if_pos hk3]
      split at hgo
      next i rest =>
        split at hgo
        next hc => rw [if_pos hc]; exact re_map_some hgo (fun x hx => ih m y _ _ _ _ _ x hnm hs hx)
        next => cases hgo
      next => cases hgo
    next hk3 =>
    rw [if_neg hk3]
    split at hgo
    next hk4 =>
      rw [if_pos hk4]
      split at hgo
      next hc =>
        rw [if_pos hc]
        cases hk9 : O.2.2.2 y' (st.take na).reverse h with
        | some b =>
          rw [hk9] at hgo
          exact hafter b _ hgo
        | none =>
          rw [hk9] at hgo
          dsimp only at hgo ⊢
          cases hc9 : re_go G O n y' 0 (lv_args 0 (st.take na).reverse) [] h with
          | none => rw [hc9] at hgo; cases hgo
          | some a =>
            rw [hc9] at hgo
            rw [ih m y' 0 _ _ _ _ a hnm hid hc9]
            exact hafter a _ hgo
      next => cases hgo
    next hk4 =>
      rw [if_neg hk4]
      split at hgo
      next i rest hdr =>
        split at hgo
        next hc =>
          rw [if_pos hc]
          split at hgo
          next t vs hi =>
            split at hgo
            next ht =>
              rw [if_pos ht]
              cases hk9 : O.2.2.2 y' (.ref i :: (st.take na).reverse) h with
              | some b =>
                rw [hk9] at hgo
                exact hafter b _ hgo
              | none =>
                rw [hk9] at hgo
                dsimp only at hgo ⊢
                cases hc9 : re_go G O n y' 0 (lv_args 0 (.ref i :: (st.take na).reverse)) [] h with
                | none => rw [hc9] at hgo; cases hgo
                | some a =>
                  rw [hc9] at hgo
                  rw [ih m y' 0 _ _ _ _ a hnm hid hc9]
                  exact hafter a _ hgo
            next => cases hgo
          next => cases hgo
        next => cases hgo
      next => cases hgo
