theorem B192_0 {SC : List Value} {d s : Nat} {h : re_H} {Q : Nat → Value → re_H → Prop} {a0 : Nat} {a1 : Nat}
    (K : wp SC 192 d s 4 [(0, .ref a0), (1, .ref a1)] [] h Q) : wp SC 192 d s 0 [(0, .ref a0), (1, .ref a1)] [] h Q := by
  refine wp_run 1 (pc' := 1) (lv' := [(0, .ref a0), (1, .ref a1)]) (st' := [.ref a0]) rfl ?_
  refine wp_obj ⟨rfl, rfl⟩ rfl (by simp [re_cat, vc_i, vc_l, vc_r, vc_n, vc_a]) ?_
  exact wp_weak (re_sb_at rfl (re_sb_at rfl (re_sb_nil _))) K
theorem B192_4 {SC : List Value} {d s : Nat} {h : re_H} {Q : Nat → Value → re_H → Prop} {a0 : Nat} {a1 : Nat}
    {s' i : Nat} (hx : (i32 16) = i32 i) (hn : i * 8 ≤ 536870912) (hs : i + 2 * s' ≤ 11 + 2 * s) (hs' : s' ≤ s) (K : wp SC 192 d s' 9 [(0, .ref a0), (1, .ref a1)] [.ref h.1, .ref a0] (re_hq h (100, List.replicate i (.int 0))) Q) : wp SC 192 d s 4 [(0, .ref a0), (1, .ref a1)] [] h Q := by
  refine wp_run 1 (pc' := 5) (lv' := [(0, .ref a0), (1, .ref a1)]) (st' := [.ref a0]) rfl ?_
  refine wp_bi (x := (i32 16)) ⟨rfl, rfl⟩ (by decide) ?_
  exact wp_na ⟨rfl, rfl⟩ hx hn (Or.inl ⟨rfl, rfl, rfl⟩) hs hs' (wp_weak (re_sb_at rfl (re_sb_at rfl (re_sb_nil _))) K)
theorem B192_9 {SC : List Value} {d s : Nat} {h : re_H} {Q : Nat → Value → re_H → Prop} {a0 : Nat} {a1 : Nat} {as0 : Nat} {as1 : Nat}
    {w : List Value} (e : re_hg h as1 = some (3, w)) (hk : 1 < w.length) (K : wp SC 192 d s 12 [(0, .ref a0), (1, .ref a1)] [] (re_hw h as1 (3, w.set 1 (.ref as0))) Q) : wp SC 192 d s 9 [(0, .ref a0), (1, .ref a1)] [.ref as0, .ref as1] h Q := by
  exact wp_pf ⟨rfl, rfl⟩ rfl (Or.inr ⟨rfl, rfl⟩) e hk (fit_a (Or.inr ⟨_, rfl⟩)) (wp_weak (re_sb_at rfl (re_sb_at rfl (re_sb_nil _))) K)
theorem B192_12 {SC : List Value} {d s : Nat} {h : re_H} {Q : Nat → Value → re_H → Prop} {a0 : Nat} {a1 : Nat}
    {s' i : Nat} (hx : (i32 16) = i32 i) (hn : i * 8 ≤ 536870912) (hs : i + 2 * s' ≤ 11 + 2 * s) (hs' : s' ≤ s) (K : wp SC 192 d s' 17 [(0, .ref a0), (1, .ref a1)] [.ref h.1, .ref a0] (re_hq h (100, List.replicate i (.int 0))) Q) : wp SC 192 d s 12 [(0, .ref a0), (1, .ref a1)] [] h Q := by
  refine wp_run 1 (pc' := 13) (lv' := [(0, .ref a0), (1, .ref a1)]) (st' := [.ref a0]) rfl ?_
  refine wp_bi (x := (i32 16)) ⟨rfl, rfl⟩ (by decide) ?_
  exact wp_na ⟨rfl, rfl⟩ hx hn (Or.inl ⟨rfl, rfl, rfl⟩) hs hs' (wp_weak (re_sb_at rfl (re_sb_at rfl (re_sb_nil _))) K)
theorem B192_17 {SC : List Value} {d s : Nat} {h : re_H} {Q : Nat → Value → re_H → Prop} {a0 : Nat} {a1 : Nat} {as0 : Nat} {as1 : Nat}
    {w : List Value} (e : re_hg h as1 = some (3, w)) (hk : 2 < w.length) (K : wp SC 192 d s 20 [(0, .ref a0), (1, .ref a1)] [] (re_hw h as1 (3, w.set 2 (.ref as0))) Q) : wp SC 192 d s 17 [(0, .ref a0), (1, .ref a1)] [.ref as0, .ref as1] h Q := by
  exact wp_pf ⟨rfl, rfl⟩ rfl (Or.inr ⟨rfl, rfl⟩) e hk (fit_a (Or.inr ⟨_, rfl⟩)) (wp_weak (re_sb_at rfl (re_sb_at rfl (re_sb_nil _))) K)
theorem B192_20 {SC : List Value} {d s : Nat} {h : re_H} {Q : Nat → Value → re_H → Prop} {a0 : Nat} {a1 : Nat}
    {s' i : Nat} (hx : (i32 12) = i32 i) (hn : i * 8 ≤ 536870912) (hs : i + 2 * s' ≤ 11 + 2 * s) (hs' : s' ≤ s) (K : wp SC 192 d s' 25 [(0, .ref a0), (1, .ref a1)] [.ref h.1, .ref a0] (re_hq h (100, List.replicate i (.int 0))) Q) : wp SC 192 d s 20 [(0, .ref a0), (1, .ref a1)] [] h Q := by
  refine wp_run 1 (pc' := 21) (lv' := [(0, .ref a0), (1, .ref a1)]) (st' := [.ref a0]) rfl ?_
  refine wp_bi (x := (i32 12)) ⟨rfl, rfl⟩ (by decide) ?_
  exact wp_na ⟨rfl, rfl⟩ hx hn (Or.inl ⟨rfl, rfl, rfl⟩) hs hs' (wp_weak (re_sb_at rfl (re_sb_at rfl (re_sb_nil _))) K)
theorem B192_25 {SC : List Value} {d s : Nat} {h : re_H} {Q : Nat → Value → re_H → Prop} {a0 : Nat} {a1 : Nat} {as0 : Nat} {as1 : Nat}
    {w : List Value} (e : re_hg h as1 = some (3, w)) (hk : 3 < w.length) (K : wp SC 192 d s 28 [(0, .ref a0), (1, .ref a1)] [] (re_hw h as1 (3, w.set 3 (.ref as0))) Q) : wp SC 192 d s 25 [(0, .ref a0), (1, .ref a1)] [.ref as0, .ref as1] h Q := by
  exact wp_pf ⟨rfl, rfl⟩ rfl (Or.inr ⟨rfl, rfl⟩) e hk (fit_a (Or.inr ⟨_, rfl⟩)) (wp_weak (re_sb_at rfl (re_sb_at rfl (re_sb_nil _))) K)
theorem B192_28 {SC : List Value} {d s : Nat} {h : re_H} {Q : Nat → Value → re_H → Prop} {a0 : Nat} {a1 : Nat}
    {s' i : Nat} (hx : (i32 12) = i32 i) (hn : i * 8 ≤ 536870912) (hs : i + 2 * s' ≤ 11 + 2 * s) (hs' : s' ≤ s) (K : wp SC 192 d s' 33 [(0, .ref a0), (1, .ref a1)] [.ref h.1, .ref a0] (re_hq h (100, List.replicate i (.int 0))) Q) : wp SC 192 d s 28 [(0, .ref a0), (1, .ref a1)] [] h Q := by
  refine wp_run 1 (pc' := 29) (lv' := [(0, .ref a0), (1, .ref a1)]) (st' := [.ref a0]) rfl ?_
  refine wp_bi (x := (i32 12)) ⟨rfl, rfl⟩ (by decide) ?_
  exact wp_na ⟨rfl, rfl⟩ hx hn (Or.inl ⟨rfl, rfl, rfl⟩) hs hs' (wp_weak (re_sb_at rfl (re_sb_at rfl (re_sb_nil _))) K)
theorem B192_33 {SC : List Value} {d s : Nat} {h : re_H} {Q : Nat → Value → re_H → Prop} {a0 : Nat} {a1 : Nat} {as0 : Nat} {as1 : Nat}
    {w : List Value} (e : re_hg h as1 = some (3, w)) (hk : 4 < w.length) (K : wp SC 192 d s 36 [(0, .ref a0), (1, .ref a1)] [] (re_hw h as1 (3, w.set 4 (.ref as0))) Q) : wp SC 192 d s 33 [(0, .ref a0), (1, .ref a1)] [.ref as0, .ref as1] h Q := by
  exact wp_pf ⟨rfl, rfl⟩ rfl (Or.inr ⟨rfl, rfl⟩) e hk (fit_a (Or.inr ⟨_, rfl⟩)) (wp_weak (re_sb_at rfl (re_sb_at rfl (re_sb_nil _))) K)
theorem B192_36 {SC : List Value} {d s : Nat} {h : re_H} {Q : Nat → Value → re_H → Prop} {a0 : Nat} {a1 : Nat}
    {s' i : Nat} (hx : (i32 12) = i32 i) (hn : i * 8 ≤ 536870912) (hs : i + 2 * s' ≤ 11 + 2 * s) (hs' : s' ≤ s) (K : wp SC 192 d s' 41 [(0, .ref a0), (1, .ref a1)] [.ref h.1, .ref a0] (re_hq h (100, List.replicate i (.int 0))) Q) : wp SC 192 d s 36 [(0, .ref a0), (1, .ref a1)] [] h Q := by
  refine wp_run 1 (pc' := 37) (lv' := [(0, .ref a0), (1, .ref a1)]) (st' := [.ref a0]) rfl ?_
  refine wp_bi (x := (i32 12)) ⟨rfl, rfl⟩ (by decide) ?_
  exact wp_na ⟨rfl, rfl⟩ hx hn (Or.inl ⟨rfl, rfl, rfl⟩) hs hs' (wp_weak (re_sb_at rfl (re_sb_at rfl (re_sb_nil _))) K)
theorem B192_41 {SC : List Value} {d s : Nat} {h : re_H} {Q : Nat → Value → re_H → Prop} {a0 : Nat} {a1 : Nat} {as0 : Nat} {as1 : Nat}
    {w : List Value} (e : re_hg h as1 = some (3, w)) (hk : 5 < w.length) (K : wp SC 192 d s 44 [(0, .ref a0), (1, .ref a1)] [] (re_hw h as1 (3, w.set 5 (.ref as0))) Q) : wp SC 192 d s 41 [(0, .ref a0), (1, .ref a1)] [.ref as0, .ref as1] h Q := by
  exact wp_pf ⟨rfl, rfl⟩ rfl (Or.inr ⟨rfl, rfl⟩) e hk (fit_a (Or.inr ⟨_, rfl⟩)) (wp_weak (re_sb_at rfl (re_sb_at rfl (re_sb_nil _))) K)
theorem B192_44 {SC : List Value} {d s : Nat} {h : re_H} {Q : Nat → Value → re_H → Prop} {a0 : Nat} {a1 : Nat}
    {s' i : Nat} (hx : (i32 12) = i32 i) (hn : i * 8 ≤ 536870912) (hs : i + 2 * s' ≤ 11 + 2 * s) (hs' : s' ≤ s) (K : wp SC 192 d s' 49 [(0, .ref a0), (1, .ref a1)] [.ref h.1, .ref a0] (re_hq h (100, List.replicate i (.int 0))) Q) : wp SC 192 d s 44 [(0, .ref a0), (1, .ref a1)] [] h Q := by
  refine wp_run 1 (pc' := 45) (lv' := [(0, .ref a0), (1, .ref a1)]) (st' := [.ref a0]) rfl ?_
  refine wp_bi (x := (i32 12)) ⟨rfl, rfl⟩ (by decide) ?_
  exact wp_na ⟨rfl, rfl⟩ hx hn (Or.inl ⟨rfl, rfl, rfl⟩) hs hs' (wp_weak (re_sb_at rfl (re_sb_at rfl (re_sb_nil _))) K)
theorem B192_49 {SC : List Value} {d s : Nat} {h : re_H} {Q : Nat → Value → re_H → Prop} {a0 : Nat} {a1 : Nat} {as0 : Nat} {as1 : Nat}
    {w : List Value} (e : re_hg h as1 = some (3, w)) (hk : 6 < w.length) (K : wp SC 192 d s 52 [(0, .ref a0), (1, .ref a1)] [] (re_hw h as1 (3, w.set 6 (.ref as0))) Q) : wp SC 192 d s 49 [(0, .ref a0), (1, .ref a1)] [.ref as0, .ref as1] h Q := by
  exact wp_pf ⟨rfl, rfl⟩ rfl (Or.inr ⟨rfl, rfl⟩) e hk (fit_a (Or.inr ⟨_, rfl⟩)) (wp_weak (re_sb_at rfl (re_sb_at rfl (re_sb_nil _))) K)
theorem B192_52 {SC : List Value} {d s : Nat} {h : re_H} {Q : Nat → Value → re_H → Prop} {a0 : Nat} {a1 : Nat}
    {w : List Value} (e : re_hg h a0 = some (3, w)) (hk : 0 < w.length) (K : wp SC 192 d s 57 [] [] (re_hw h a0 (3, w.set 0 (.ref a1))) Q) : wp SC 192 d s 52 [(0, .ref a0), (1, .ref a1)] [] h Q := by
  refine wp_run 2 (pc' := 54) (lv' := [(0, .ref a0), (1, .ref a1)]) (st' := [.ref a1, .ref a0]) rfl ?_
  exact wp_pf ⟨rfl, rfl⟩ rfl (Or.inr ⟨rfl, rfl⟩) e hk (fit_o (Or.inr ⟨_, rfl⟩)) (wp_weak (re_sb_nil _) K)
theorem B192_57 {SC : List Value} {d s : Nat} {h : re_H} {Q : Nat → Value → re_H → Prop} 
    (K : Q 0 .null h) : wp SC 192 d s 57 [] [] h Q := by
  exact wp_retv ⟨rfl, rfl⟩ rfl K
theorem B193_0 {SC : List Value} {d s : Nat} {h : re_H} {Q : Nat → Value → re_H → Prop} {a0 : Nat}
    {c : Nat} {w : List Value} (eg : re_hg h a0 = some (c, w)) (ec : c = 3) (K : wp SC 194 d 0 0 [(0, .ref a0)] [] h (wp_ret SC 193 (d + 1) s 4 [(0, .ref a0)] [] Q)) : wp SC 193 (d + 1) s 0 [(0, .ref a0)] [] h Q := by
  refine wp_run 1 (pc' := 1) (lv' := [(0, .ref a0)]) (st' := [.ref a0]) rfl ?_
  have eA : lv_args 0 (.ref a0 :: [].reverse) = [(0, .ref a0)] := by simp [lv_args, vc_i, vc_l, vc_r, vc_n, vc_a]
  refine wp_callV (ar := []) (rest := []) (s1 := 0) (s2 := s) (d' := d) ⟨rfl, rfl⟩ rfl (Or.inl rfl)  (by simp [re_cat, vc_i, vc_l, vc_r, vc_n, vc_a]) (by rw [show re_cat (.ref a0 :: [].reverse) = 1 from by simp [re_cat, vc_i, vc_l, vc_r, vc_n, vc_a]]; decide) (by decide) rfl eg ec rfl (Nat.le_of_eq (Nat.zero_add s)) ?_
  rw [eA]
  exact wp_mono K (fun k v h' z => wp_ret_weak (re_sb_at rfl (re_sb_nil _)) z)
theorem B193_4 {SC : List Value} {d s : Nat} {h : re_H} {Q : Nat → Value → re_H → Prop} {a0 : Nat}
    {c : Nat} {w : List Value} (eg : re_hg h a0 = some (c, w)) (ec : c = 3) (K : wp SC 195 d 0 0 [(0, .ref a0)] [] h (wp_ret SC 193 (d + 1) s 8 [(0, .ref a0)] [] Q)) : wp SC 193 (d + 1) s 4 [(0, .ref a0)] [] h Q := by
  refine wp_run 1 (pc' := 5) (lv' := [(0, .ref a0)]) (st' := [.ref a0]) rfl ?_
  have eA : lv_args 0 (.ref a0 :: [].reverse) = [(0, .ref a0)] := by simp [lv_args, vc_i, vc_l, vc_r, vc_n, vc_a]
  refine wp_callV (ar := []) (rest := []) (s1 := 0) (s2 := s) (d' := d) ⟨rfl, rfl⟩ rfl (Or.inl rfl)  (by simp [re_cat, vc_i, vc_l, vc_r, vc_n, vc_a]) (by rw [show re_cat (.ref a0 :: [].reverse) = 1 from by simp [re_cat, vc_i, vc_l, vc_r, vc_n, vc_a]]; decide) (by decide) rfl eg ec rfl (Nat.le_of_eq (Nat.zero_add s)) ?_
  rw [eA]
  exact wp_mono K (fun k v h' z => wp_ret_weak (re_sb_at rfl (re_sb_nil _)) z)
theorem B193_8 {SC : List Value} {d s : Nat} {h : re_H} {Q : Nat → Value → re_H → Prop} {a0 : Nat}
    {c : Nat} {w : List Value} (eg : re_hg h a0 = some (c, w)) (ec : c = 3) (K : wp SC 196 d 0 0 [(0, .ref a0)] [] h (wp_ret SC 193 (d + 1) s 12 [(0, .ref a0)] [] Q)) : wp SC 193 (d + 1) s 8 [(0, .ref a0)] [] h Q := by
  refine wp_run 1 (pc' := 9) (lv' := [(0, .ref a0)]) (st' := [.ref a0]) rfl ?_
  have eA : lv_args 0 (.ref a0 :: [].reverse) = [(0, .ref a0)] := by simp [lv_args, vc_i, vc_l, vc_r, vc_n, vc_a]
  refine wp_callV (ar := []) (rest := []) (s1 := 0) (s2 := s) (d' := d) ⟨rfl, rfl⟩ rfl (Or.inl rfl)  (by simp [re_cat, vc_i, vc_l, vc_r, vc_n, vc_a]) (by rw [show re_cat (.ref a0 :: [].reverse) = 1 from by simp [re_cat, vc_i, vc_l, vc_r, vc_n, vc_a]]; decide) (by decide) rfl eg ec rfl (Nat.le_of_eq (Nat.zero_add s)) ?_
  rw [eA]
  exact wp_mono K (fun k v h' z => wp_ret_weak (re_sb_at rfl (re_sb_nil _)) z)
theorem B193_12 {SC : List Value} {d s : Nat} {h : re_H} {Q : Nat → Value → re_H → Prop} {a0 : Nat}
    (K : wp SC 193 d s 14 [(0, .ref a0), (1, .int (i32 0))] [] h Q) : wp SC 193 d s 12 [(0, .ref a0)] [] h Q := by
  refine wp_run 2 (pc' := 14) (lv' := [(1, .int (i32 0)), (0, .ref a0)]) (st' := []) rfl ?_
  exact wp_weak (re_sb_at rfl (re_sb_at rfl (re_sb_nil _))) K
theorem B193_14 {SC : List Value} {d s : Nat} {h : re_H} {Q : Nat → Value → re_H → Prop} {a0 : Nat} {x1 : Int32}
    (K1 : ¬ x1 < (i32 12) → wp SC 193 d s 37 [] [] h Q) (K2 : x1 < (i32 12) → wp SC 193 d s 20 [(0, .ref a0), (1, .int x1)] [] h Q) : wp SC 193 d s 14 [(0, .ref a0), (1, .int x1)] [] h Q := by
  refine wp_run 1 (pc' := 15) (lv' := [(0, .ref a0), (1, .int x1)]) (st' := [.int x1]) rfl ?_
  refine wp_bi (x := (i32 12)) ⟨rfl, rfl⟩ (by decide) ?_
  exact wp_cmp ⟨rfl, rfl⟩ rfl (fun hc => wp_weak (re_sb_nil _) (K1 (ic1_ge hc))) (fun hc => wp_weak (re_sb_at rfl (re_sb_at rfl (re_sb_nil _))) (K2 (ic0_ge hc)))
theorem B193_20 {SC : List Value} {d s : Nat} {h : re_H} {Q : Nat → Value → re_H → Prop} {a0 : Nat} {x1 : Int32}
    {ae1 : Nat} (e2 : nb_fd h a0 3 6 (.ref ae1)) {c : Nat} {w : List Value} (eg : re_hg h a0 = some (c, w)) (ec : c = 3) (K : wp SC 197 d 0 0 [(0, .ref a0), (1, .int x1)] [] h (wp_ret SC 193 (d + 1) s 30 [(0, .ref a0), (1, .int x1)] [.int x1, .ref ae1] Q)) : wp SC 193 (d + 1) s 20 [(0, .ref a0), (1, .int x1)] [] h Q := by
  refine wp_run 1 (pc' := 21) (lv' := [(0, .ref a0), (1, .int x1)]) (st' := [.ref a0]) rfl ?_
  obtain ⟨w2, e2a, e2b⟩ := e2
  refine wp_gf ⟨rfl, rfl⟩ rfl e2a e2b ?_
  refine wp_run 3 (pc' := 27) (lv' := [(0, .ref a0), (1, .int x1)]) (st' := [.int x1, .ref a0, .int x1, .ref ae1]) rfl ?_
  have eA : lv_args 0 (.ref a0 :: [.int x1].reverse) = [(0, .ref a0), (1, .int x1)] := by simp [lv_args, vc_i, vc_l, vc_r, vc_n, vc_a]
  refine wp_callV (ar := [.int x1]) (rest := [.int x1, .ref ae1]) (s1 := 0) (s2 := s) (d' := d) ⟨rfl, rfl⟩ rfl (Or.inl rfl)  (by simp [re_cat, vc_i, vc_l, vc_r, vc_n, vc_a]) (by rw [show re_cat (.ref a0 :: [.int x1].reverse) = 2 from by simp [re_cat, vc_i, vc_l, vc_r, vc_n, vc_a]]; decide) (by decide) rfl eg ec rfl (Nat.le_of_eq (Nat.zero_add s)) ?_
  rw [eA]
  exact wp_mono K (fun k v h' z => wp_ret_weak (re_sb_at rfl (re_sb_at rfl (re_sb_nil _))) z)
theorem B193_30 {SC : List Value} {d s : Nat} {h : re_H} {Q : Nat → Value → re_H → Prop} {a0 : Nat} {x1 : Int32} {xs0 : Int32} {xs1 : Int32} {as2 : Nat}
    {w : List Value} {i : Nat} (e : re_hg h as2 = some (100, w)) (hx : xs1 = i32 i) (hi : i < 2147483648) (hl : i < w.length) (K : wp SC 193 d s 31 [(0, .ref a0), (1, .int x1)] [] (re_hw h as2 (100, w.set i (.int xs0))) Q) : wp SC 193 d s 30 [(0, .ref a0), (1, .int x1)] [.int xs0, .int xs1, .ref as2] h Q := by
  exact wp_ias ⟨rfl, rfl⟩ e rfl hx hi hl (wp_weak (re_sb_at rfl (re_sb_at rfl (re_sb_nil _))) K)
theorem B193_31 {SC : List Value} {d s : Nat} {h : re_H} {Q : Nat → Value → re_H → Prop} {a0 : Nat} {x1 : Int32}
    (K : wp SC 193 d s 14 [(0, .ref a0), (1, .int (x1 + (i32 1)))] [] h Q) : wp SC 193 d s 31 [(0, .ref a0), (1, .int x1)] [] h Q := by
  refine wp_run 2 (pc' := 14) (lv' := [(1, .int (x1 + (i32 1))), (0, .ref a0)]) (st' := []) rfl ?_
  exact wp_weak (re_sb_at rfl (re_sb_at rfl (re_sb_nil _))) K
theorem B193_37 {SC : List Value} {d s : Nat} {h : re_H} {Q : Nat → Value → re_H → Prop} 
    (K : Q 0 .null h) : wp SC 193 d s 37 [] [] h Q := by
  exact wp_retv ⟨rfl, rfl⟩ rfl K
set_option maxRecDepth 20000 in
theorem B194_0 {SC : List Value} {d s : Nat} {h : re_H} {Q : Nat → Value → re_H → Prop} {a0 : Nat}
    (K : wp SC 194 d s 2 [(0, .ref a0), (1, .int (i32 0))] [] h Q) : wp SC 194 d s 0 [(0, .ref a0)] [] h Q := by
  refine wp_run 2 (pc' := 2) (lv' := [(1, .int (i32 0)), (0, .ref a0)]) (st' := []) rfl ?_
  exact wp_weak (re_sb_at rfl (re_sb_at rfl (re_sb_nil _))) K
set_option maxRecDepth 20000 in
theorem B194_2 {SC : List Value} {d s : Nat} {h : re_H} {Q : Nat → Value → re_H → Prop} {a0 : Nat} {x1 : Int32}
    (K1 : ¬ x1 < (i32 16) → wp SC 194 d s 28 [(0, .ref a0)] [] h Q) (K2 : x1 < (i32 16) → wp SC 194 d s 8 [(0, .ref a0), (1, .int x1)] [] h Q) : wp SC 194 d s 2 [(0, .ref a0), (1, .int x1)] [] h Q := by
  refine wp_run 1 (pc' := 3) (lv' := [(0, .ref a0), (1, .int x1)]) (st' := [.int x1]) rfl ?_
  refine wp_bi (x := (i32 16)) ⟨rfl, rfl⟩ (by decide) ?_
  exact wp_cmp ⟨rfl, rfl⟩ rfl (fun hc => wp_weak (re_sb_at rfl (re_sb_nil _)) (K1 (ic1_ge hc))) (fun hc => wp_weak (re_sb_at rfl (re_sb_at rfl (re_sb_nil _))) (K2 (ic0_ge hc)))
set_option maxRecDepth 20000 in
theorem B194_8 {SC : List Value} {d s : Nat} {h : re_H} {Q : Nat → Value → re_H → Prop} {a0 : Nat} {x1 : Int32}
    {ae1 : Nat} (e2 : nb_fd h a0 3 1 (.ref ae1)) {w : List Value} {i : Nat} (e : re_hg h ae1 = some (100, w)) (hx : x1 = i32 i) (hi : i < 2147483648) (hl : i < w.length) (K : wp SC 194 d s 15 [(0, .ref a0), (1, .int x1)] [] (re_hw h ae1 (100, w.set i (.int (i32 0)))) Q) : wp SC 194 d s 8 [(0, .ref a0), (1, .int x1)] [] h Q := by
  refine wp_run 1 (pc' := 9) (lv' := [(0, .ref a0), (1, .int x1)]) (st' := [.ref a0]) rfl ?_
  obtain ⟨w2, e2a, e2b⟩ := e2
  refine wp_gf ⟨rfl, rfl⟩ rfl e2a e2b ?_
  refine wp_run 2 (pc' := 14) (lv' := [(0, .ref a0), (1, .int x1)]) (st' := [.int (i32 0), .int x1, .ref ae1]) rfl ?_
  exact wp_ias ⟨rfl, rfl⟩ e rfl hx hi hl (wp_weak (re_sb_at rfl (re_sb_at rfl (re_sb_nil _))) K)
set_option maxRecDepth 20000 in
theorem B194_15 {SC : List Value} {d s : Nat} {h : re_H} {Q : Nat → Value → re_H → Prop} {a0 : Nat} {x1 : Int32}
    {ae1 : Nat} (e2 : nb_fd h a0 3 2 (.ref ae1)) {w : List Value} {i : Nat} (e : re_hg h ae1 = some (100, w)) (hx : x1 = i32 i) (hi : i < 2147483648) (hl : i < w.length) (K : wp SC 194 d s 22 [(0, .ref a0), (1, .int x1)] [] (re_hw h ae1 (100, w.set i (.int (-1)))) Q) : wp SC 194 d s 15 [(0, .ref a0), (1, .int x1)] [] h Q := by
  refine wp_run 1 (pc' := 16) (lv' := [(0, .ref a0), (1, .int x1)]) (st' := [.ref a0]) rfl ?_
  obtain ⟨w2, e2a, e2b⟩ := e2
  refine wp_gf ⟨rfl, rfl⟩ rfl e2a e2b ?_
  refine wp_run 2 (pc' := 21) (lv' := [(0, .ref a0), (1, .int x1)]) (st' := [.int (-1), .int x1, .ref ae1]) rfl ?_
  exact wp_ias ⟨rfl, rfl⟩ e rfl hx hi hl (wp_weak (re_sb_at rfl (re_sb_at rfl (re_sb_nil _))) K)
set_option maxRecDepth 20000 in
theorem B194_22 {SC : List Value} {d s : Nat} {h : re_H} {Q : Nat → Value → re_H → Prop} {a0 : Nat} {x1 : Int32}
    (K : wp SC 194 d s 2 [(0, .ref a0), (1, .int (x1 + (i32 1)))] [] h Q) : wp SC 194 d s 22 [(0, .ref a0), (1, .int x1)] [] h Q := by
  refine wp_run 2 (pc' := 2) (lv' := [(1, .int (x1 + (i32 1))), (0, .ref a0)]) (st' := []) rfl ?_
  exact wp_weak (re_sb_at rfl (re_sb_at rfl (re_sb_nil _))) K
set_option maxRecDepth 20000 in
theorem B194_28 {SC : List Value} {d s : Nat} {h : re_H} {Q : Nat → Value → re_H → Prop} {a0 : Nat}
    (K : wp SC 194 d s 30 [(0, .ref a0), (1, .int (i32 0))] [] h Q) : wp SC 194 d s 28 [(0, .ref a0)] [] h Q := by
  refine wp_run 2 (pc' := 30) (lv' := [(1, .int (i32 0)), (0, .ref a0)]) (st' := []) rfl ?_
  exact wp_weak (re_sb_at rfl (re_sb_at rfl (re_sb_nil _))) K
set_option maxRecDepth 20000 in
theorem B194_30 {SC : List Value} {d s : Nat} {h : re_H} {Q : Nat → Value → re_H → Prop} {a0 : Nat} {x1 : Int32}
    (K1 : ¬ x1 < (i32 12) → wp SC 194 d s 111 [] [] h Q) (K2 : x1 < (i32 12) → wp SC 194 d s 36 [(0, .ref a0), (1, .int x1)] [] h Q) : wp SC 194 d s 30 [(0, .ref a0), (1, .int x1)] [] h Q := by
  refine wp_run 1 (pc' := 31) (lv' := [(0, .ref a0), (1, .int x1)]) (st' := [.int x1]) rfl ?_
  refine wp_bi (x := (i32 12)) ⟨rfl, rfl⟩ (by decide) ?_
  exact wp_cmp ⟨rfl, rfl⟩ rfl (fun hc => wp_weak (re_sb_nil _) (K1 (ic1_ge hc))) (fun hc => wp_weak (re_sb_at rfl (re_sb_at rfl (re_sb_nil _))) (K2 (ic0_ge hc)))
set_option maxRecDepth 20000 in
theorem B194_36 {SC : List Value} {d s : Nat} {h : re_H} {Q : Nat → Value → re_H → Prop} {a0 : Nat} {x1 : Int32}
    {ae1 : Nat} (e2 : nb_fd h a0 3 0 (.ref ae1)) {ae3 : Nat} (e4 : nb_fd h ae1 1 1 (.ref ae3)) {ae5 : Nat} (e6 : nb_ar h ae3 104 x1 (.ref ae5)) (K : wp SC 194 d s 48 [(0, .ref a0), (1, .int x1), (2, .ref ae5), (3, .int (i32 0))] [] h Q) : wp SC 194 d s 36 [(0, .ref a0), (1, .int x1)] [] h Q := by
  refine wp_run 1 (pc' := 37) (lv' := [(0, .ref a0), (1, .int x1)]) (st' := [.ref a0]) rfl ?_
  obtain ⟨w2, e2a, e2b⟩ := e2
  refine wp_gf ⟨rfl, rfl⟩ rfl e2a e2b ?_
  obtain ⟨w4, e4a, e4b⟩ := e4
  refine wp_gf ⟨rfl, rfl⟩ rfl e4a e4b ?_
  refine wp_run 1 (pc' := 44) (lv' := [(0, .ref a0), (1, .int x1)]) (st' := [.int x1, .ref ae3]) rfl ?_
  obtain ⟨w6, i6, e6a, e6x, e6i, e6v⟩ := e6
  refine wp_aal ⟨rfl, rfl⟩ e6a ⟨by decide, by decide⟩ e6x e6i e6v ?_
  refine wp_run 3 (pc' := 48) (lv' := [(3, .int (i32 0)), (2, .ref ae5), (0, .ref a0), (1, .int x1)]) (st' := []) rfl ?_
  exact wp_weak (re_sb_at rfl (re_sb_at rfl (re_sb_at rfl (re_sb_at rfl (re_sb_nil _))))) K
set_option maxRecDepth 20000 in
theorem B194_48 {SC : List Value} {d s : Nat} {h : re_H} {Q : Nat → Value → re_H → Prop} {a0 : Nat} {x1 : Int32} {a2 : Nat} {x3 : Int32}
    {xe1 : Int32} (e2 : nb_fd h a2 2 0 (.int xe1)) (K1 : ¬ x3 < xe1 → wp SC 194 d s 105 [(0, .ref a0), (1, .int x1)] [] h Q) (K2 : x3 < xe1 → wp SC 194 d s 56 [(0, .ref a0), (1, .int x1), (2, .ref a2), (3, .int x3)] [] h Q) : wp SC 194 d s 48 [(0, .ref a0), (1, .int x1), (2, .ref a2), (3, .int x3)] [] h Q := by
  refine wp_run 2 (pc' := 50) (lv' := [(0, .ref a0), (1, .int x1), (2, .ref a2), (3, .int x3)]) (st' := [.ref a2, .int x3]) rfl ?_
  obtain ⟨w2, e2a, e2b⟩ := e2
  refine wp_gf ⟨rfl, rfl⟩ rfl e2a e2b ?_
  exact wp_cmp ⟨rfl, rfl⟩ rfl (fun hc => wp_weak (re_sb_at rfl (re_sb_at rfl (re_sb_nil _))) (K1 (ic1_ge hc))) (fun hc => wp_weak (re_sb_at rfl (re_sb_at rfl (re_sb_at rfl (re_sb_at rfl (re_sb_nil _))))) (K2 (ic0_ge hc)))
set_option maxRecDepth 20000 in
theorem B194_56 {SC : List Value} {d s : Nat} {h : re_H} {Q : Nat → Value → re_H → Prop} {a0 : Nat} {x1 : Int32} {a2 : Nat} {x3 : Int32}
    {ae1 : Nat} (e2 : nb_fd h a2 2 1 (.ref ae1)) {xe3 : Int32} (e4 : nb_ar h ae1 100 x3 (.int xe3)) {ae5 : Nat} (e6 : nb_fd h a0 3 2 (.ref ae5)) {ae7 : Nat} (e8 : nb_fd h a0 3 1 (.ref ae7)) {xe9 : Int32} (e10 : nb_ar h ae7 100 xe3 (.int xe9)) (K1 : ¬ xe9 = 0 → wp SC 194 d s 84 [(0, .ref a0), (1, .int x1), (2, .ref a2), (3, .int x3), (4, .int xe3)] [.int xe3, .ref ae5] h Q) (K2 : xe9 = 0 → wp SC 194 d s 80 [(0, .ref a0), (1, .int x1), (2, .ref a2), (3, .int x3), (4, .int xe3)] [.int xe3, .ref ae5] h Q) : wp SC 194 d s 56 [(0, .ref a0), (1, .int x1), (2, .ref a2), (3, .int x3)] [] h Q := by
  refine wp_run 1 (pc' := 57) (lv' := [(0, .ref a0), (1, .int x1), (2, .ref a2), (3, .int x3)]) (st' := [.ref a2]) rfl ?_
  obtain ⟨w2, e2a, e2b⟩ := e2
  refine wp_gf ⟨rfl, rfl⟩ rfl e2a e2b ?_
  refine wp_run 1 (pc' := 61) (lv' := [(0, .ref a0), (1, .int x1), (2, .ref a2), (3, .int x3)]) (st' := [.int x3, .ref ae1]) rfl ?_
  obtain ⟨w4, i4, e4a, e4x, e4i, e4v⟩ := e4
  refine wp_ial ⟨rfl, rfl⟩ e4a rfl e4x e4i e4v ?_
  refine wp_run 2 (pc' := 65) (lv' := [(4, .int xe3), (0, .ref a0), (1, .int x1), (2, .ref a2), (3, .int x3)]) (st' := [.ref a0]) rfl ?_
  obtain ⟨w6, e6a, e6b⟩ := e6
  refine wp_gf ⟨rfl, rfl⟩ rfl e6a e6b ?_
  refine wp_run 2 (pc' := 71) (lv' := [(4, .int xe3), (0, .ref a0), (1, .int x1), (2, .ref a2), (3, .int x3)]) (st' := [.ref a0, .int xe3, .ref ae5]) rfl ?_
  obtain ⟨w8, e8a, e8b⟩ := e8
  refine wp_gf ⟨rfl, rfl⟩ rfl e8a e8b ?_
  refine wp_run 1 (pc' := 76) (lv' := [(4, .int xe3), (0, .ref a0), (1, .int x1), (2, .ref a2), (3, .int x3)]) (st' := [.int xe3, .ref ae7, .int xe3, .ref ae5]) rfl ?_
  obtain ⟨w10, i10, e10a, e10x, e10i, e10v⟩ := e10
  refine wp_ial ⟨rfl, rfl⟩ e10a rfl e10x e10i e10v ?_
  exact wp_if ⟨rfl, rfl⟩ rfl (fun hc => wp_weak (re_sb_at rfl (re_sb_at rfl (re_sb_at rfl (re_sb_at rfl (re_sb_at rfl (re_sb_nil _)))))) (K1 (ic1_ne hc))) (fun hc => wp_weak (re_sb_at rfl (re_sb_at rfl (re_sb_at rfl (re_sb_at rfl (re_sb_at rfl (re_sb_nil _)))))) (K2 (ic0_ne hc)))
set_option maxRecDepth 20000 in
theorem B194_80 {SC : List Value} {d s : Nat} {h : re_H} {Q : Nat → Value → re_H → Prop} {a0 : Nat} {x1 : Int32} {a2 : Nat} {x3 : Int32} {x4 : Int32} {xs0 : Int32} {as1 : Nat}
    (K : wp SC 194 d s 85 [(0, .ref a0), (1, .int x1), (2, .ref a2), (3, .int x3), (4, .int x4)] [.int x1, .int xs0, .ref as1] h Q) : wp SC 194 d s 80 [(0, .ref a0), (1, .int x1), (2, .ref a2), (3, .int x3), (4, .int x4)] [.int xs0, .ref as1] h Q := by
  refine wp_run 2 (pc' := 85) (lv' := [(0, .ref a0), (1, .int x1), (2, .ref a2), (3, .int x3), (4, .int x4)]) (st' := [.int x1, .int xs0, .ref as1]) rfl ?_
  exact wp_weak (re_sb_at rfl (re_sb_at rfl (re_sb_at rfl (re_sb_at rfl (re_sb_at rfl (re_sb_nil _)))))) K
set_option maxRecDepth 20000 in
theorem B194_84 {SC : List Value} {d s : Nat} {h : re_H} {Q : Nat → Value → re_H → Prop} {a0 : Nat} {x1 : Int32} {a2 : Nat} {x3 : Int32} {x4 : Int32} {xs0 : Int32} {as1 : Nat}
    (K : wp SC 194 d s 85 [(0, .ref a0), (1, .int x1), (2, .ref a2), (3, .int x3), (4, .int x4)] [.int (-1), .int xs0, .ref as1] h Q) : wp SC 194 d s 84 [(0, .ref a0), (1, .int x1), (2, .ref a2), (3, .int x3), (4, .int x4)] [.int xs0, .ref as1] h Q := by
  refine wp_run 1 (pc' := 85) (lv' := [(0, .ref a0), (1, .int x1), (2, .ref a2), (3, .int x3), (4, .int x4)]) (st' := [.int (-1), .int xs0, .ref as1]) rfl ?_
  exact wp_weak (re_sb_at rfl (re_sb_at rfl (re_sb_at rfl (re_sb_at rfl (re_sb_at rfl (re_sb_nil _)))))) K
set_option maxRecDepth 20000 in
theorem B194_85 {SC : List Value} {d s : Nat} {h : re_H} {Q : Nat → Value → re_H → Prop} {a0 : Nat} {x1 : Int32} {a2 : Nat} {x3 : Int32} {x4 : Int32} {xs0 : Int32} {xs1 : Int32} {as2 : Nat}
    {w : List Value} {i : Nat} (e : re_hg h as2 = some (100, w)) (hx : xs1 = i32 i) (hi : i < 2147483648) (hl : i < w.length) (K : wp SC 194 d s 86 [(0, .ref a0), (1, .int x1), (2, .ref a2), (3, .int x3), (4, .int x4)] [] (re_hw h as2 (100, w.set i (.int xs0))) Q) : wp SC 194 d s 85 [(0, .ref a0), (1, .int x1), (2, .ref a2), (3, .int x3), (4, .int x4)] [.int xs0, .int xs1, .ref as2] h Q := by
  exact wp_ias ⟨rfl, rfl⟩ e rfl hx hi hl (wp_weak (re_sb_at rfl (re_sb_at rfl (re_sb_at rfl (re_sb_at rfl (re_sb_at rfl (re_sb_nil _)))))) K)
set_option maxRecDepth 20000 in
theorem B194_86 {SC : List Value} {d s : Nat} {h : re_H} {Q : Nat → Value → re_H → Prop} {a0 : Nat} {x1 : Int32} {a2 : Nat} {x3 : Int32} {x4 : Int32}
    {ae1 : Nat} (e2 : nb_fd h a0 3 1 (.ref ae1)) {xe3 : Int32} (e4 : nb_ar h ae1 100 x4 (.int xe3)) {w : List Value} {i : Nat} (e : re_hg h ae1 = some (100, w)) (hx : x4 = i32 i) (hi : i < 2147483648) (hl : i < w.length) (K : wp SC 194 d s 99 [(0, .ref a0), (1, .int x1), (2, .ref a2), (3, .int x3)] [] (re_hw h ae1 (100, w.set i (.int (xe3 ||| ((i32 1) <<< (x1 &&& 31)))))) Q) : wp SC 194 d s 86 [(0, .ref a0), (1, .int x1), (2, .ref a2), (3, .int x3), (4, .int x4)] [] h Q := by
  refine wp_run 1 (pc' := 87) (lv' := [(0, .ref a0), (1, .int x1), (2, .ref a2), (3, .int x3), (4, .int x4)]) (st' := [.ref a0]) rfl ?_
  obtain ⟨w2, e2a, e2b⟩ := e2
  refine wp_gf ⟨rfl, rfl⟩ rfl e2a e2b ?_
  refine wp_run 2 (pc' := 93) (lv' := [(0, .ref a0), (1, .int x1), (2, .ref a2), (3, .int x3), (4, .int x4)]) (st' := [.int x4, .ref ae1, .int x4, .ref ae1]) rfl ?_
  obtain ⟨w4, i4, e4a, e4x, e4i, e4v⟩ := e4
  refine wp_ial ⟨rfl, rfl⟩ e4a rfl e4x e4i e4v ?_
  refine wp_run 4 (pc' := 98) (lv' := [(0, .ref a0), (1, .int x1), (2, .ref a2), (3, .int x3), (4, .int x4)]) (st' := [.int (xe3 ||| ((i32 1) <<< (x1 &&& 31))), .int x4, .ref ae1]) rfl ?_
  exact wp_ias ⟨rfl, rfl⟩ e rfl hx hi hl (wp_weak (re_sb_at rfl (re_sb_at rfl (re_sb_at rfl (re_sb_at rfl (re_sb_nil _))))) K)
set_option maxRecDepth 20000 in
theorem B194_99 {SC : List Value} {d s : Nat} {h : re_H} {Q : Nat → Value → re_H → Prop} {a0 : Nat} {x1 : Int32} {a2 : Nat} {x3 : Int32}
    (K : wp SC 194 d s 48 [(0, .ref a0), (1, .int x1), (2, .ref a2), (3, .int (x3 + (i32 1)))] [] h Q) : wp SC 194 d s 99 [(0, .ref a0), (1, .int x1), (2, .ref a2), (3, .int x3)] [] h Q := by
  refine wp_run 2 (pc' := 48) (lv' := [(3, .int (x3 + (i32 1))), (0, .ref a0), (1, .int x1), (2, .ref a2)]) (st' := []) rfl ?_
  exact wp_weak (re_sb_at rfl (re_sb_at rfl (re_sb_at rfl (re_sb_at rfl (re_sb_nil _))))) K
set_option maxRecDepth 20000 in
theorem B194_105 {SC : List Value} {d s : Nat} {h : re_H} {Q : Nat → Value → re_H → Prop} {a0 : Nat} {x1 : Int32}
    (K : wp SC 194 d s 30 [(0, .ref a0), (1, .int (x1 + (i32 1)))] [] h Q) : wp SC 194 d s 105 [(0, .ref a0), (1, .int x1)] [] h Q := by
  refine wp_run 2 (pc' := 30) (lv' := [(1, .int (x1 + (i32 1))), (0, .ref a0)]) (st' := []) rfl ?_
  exact wp_weak (re_sb_at rfl (re_sb_at rfl (re_sb_nil _))) K
set_option maxRecDepth 20000 in
theorem B194_111 {SC : List Value} {d s : Nat} {h : re_H} {Q : Nat → Value → re_H → Prop} 
    (K : Q 0 .null h) : wp SC 194 d s 111 [] [] h Q := by
  exact wp_retv ⟨rfl, rfl⟩ rfl K
theorem B195_0 {SC : List Value} {d s : Nat} {h : re_H} {Q : Nat → Value → re_H → Prop} {a0 : Nat}
    (K : wp SC 195 d s 2 [(0, .ref a0), (1, .int (i32 0))] [] h Q) : wp SC 195 d s 0 [(0, .ref a0)] [] h Q := by
  refine wp_run 2 (pc' := 2) (lv' := [(1, .int (i32 0)), (0, .ref a0)]) (st' := []) rfl ?_
  exact wp_weak (re_sb_at rfl (re_sb_at rfl (re_sb_nil _))) K
theorem B195_2 {SC : List Value} {d s : Nat} {h : re_H} {Q : Nat → Value → re_H → Prop} {a0 : Nat} {x1 : Int32}
    (K1 : ¬ x1 < (i32 12) → wp SC 195 d s 82 [] [] h Q) (K2 : x1 < (i32 12) → wp SC 195 d s 8 [(0, .ref a0), (1, .int x1)] [] h Q) : wp SC 195 d s 2 [(0, .ref a0), (1, .int x1)] [] h Q := by
  refine wp_run 1 (pc' := 3) (lv' := [(0, .ref a0), (1, .int x1)]) (st' := [.int x1]) rfl ?_
  refine wp_bi (x := (i32 12)) ⟨rfl, rfl⟩ (by decide) ?_
  exact wp_cmp ⟨rfl, rfl⟩ rfl (fun hc => wp_weak (re_sb_nil _) (K1 (ic1_ge hc))) (fun hc => wp_weak (re_sb_at rfl (re_sb_at rfl (re_sb_nil _))) (K2 (ic0_ge hc)))
theorem B195_8 {SC : List Value} {d s : Nat} {h : re_H} {Q : Nat → Value → re_H → Prop} {a0 : Nat} {x1 : Int32}
    {ae1 : Nat} (e2 : nb_fd h a0 3 3 (.ref ae1)) {ae3 : Nat} (e4 : nb_fd h a0 3 0 (.ref ae3)) {ae5 : Nat} (e6 : nb_fd h ae3 1 1 (.ref ae5)) {ae7 : Nat} (e8 : nb_ar h ae5 104 x1 (.ref ae7)) {c : Nat} {w : List Value} (eg : re_hg h ae7 = some (c, w)) (ec : c = 2) (K : wp SC 129 d 0 0 [(0, .ref ae7)] [] h (wp_ret SC 195 (d + 1) s 25 [(0, .ref a0), (1, .int x1)] [.int x1, .ref ae1] Q)) : wp SC 195 (d + 1) s 8 [(0, .ref a0), (1, .int x1)] [] h Q := by
  refine wp_run 1 (pc' := 9) (lv' := [(0, .ref a0), (1, .int x1)]) (st' := [.ref a0]) rfl ?_
  obtain ⟨w2, e2a, e2b⟩ := e2
  refine wp_gf ⟨rfl, rfl⟩ rfl e2a e2b ?_
  refine wp_run 2 (pc' := 14) (lv' := [(0, .ref a0), (1, .int x1)]) (st' := [.ref a0, .int x1, .ref ae1]) rfl ?_
  obtain ⟨w4, e4a, e4b⟩ := e4
  refine wp_gf ⟨rfl, rfl⟩ rfl e4a e4b ?_
  obtain ⟨w6, e6a, e6b⟩ := e6
  refine wp_gf ⟨rfl, rfl⟩ rfl e6a e6b ?_
  refine wp_run 1 (pc' := 21) (lv' := [(0, .ref a0), (1, .int x1)]) (st' := [.int x1, .ref ae5, .int x1, .ref ae1]) rfl ?_
  obtain ⟨w8, i8, e8a, e8x, e8i, e8v⟩ := e8
  refine wp_aal ⟨rfl, rfl⟩ e8a ⟨by decide, by decide⟩ e8x e8i e8v ?_
  have eA : lv_args 0 (.ref ae7 :: [].reverse) = [(0, .ref ae7)] := by simp [lv_args, vc_i, vc_l, vc_r, vc_n, vc_a]
  refine wp_callV (ar := []) (rest := [.int x1, .ref ae1]) (s1 := 0) (s2 := s) (d' := d) ⟨rfl, rfl⟩ rfl (Or.inl rfl)  (by simp [re_cat, vc_i, vc_l, vc_r, vc_n, vc_a]) (by rw [show re_cat (.ref ae7 :: [].reverse) = 1 from by simp [re_cat, vc_i, vc_l, vc_r, vc_n, vc_a]]; decide) (by decide) rfl eg ec rfl (Nat.le_of_eq (Nat.zero_add s)) ?_
  rw [eA]
  exact wp_mono K (fun k v h' z => wp_ret_weak (re_sb_at rfl (re_sb_at rfl (re_sb_nil _))) z)
theorem B195_25 {SC : List Value} {d s : Nat} {h : re_H} {Q : Nat → Value → re_H → Prop} {a0 : Nat} {x1 : Int32} {xs0 : Int32} {xs1 : Int32} {as2 : Nat}
    {w : List Value} {i : Nat} (e : re_hg h as2 = some (100, w)) (hx : xs1 = i32 i) (hi : i < 2147483648) (hl : i < w.length) (K : wp SC 195 d s 26 [(0, .ref a0), (1, .int x1)] [] (re_hw h as2 (100, w.set i (.int xs0))) Q) : wp SC 195 d s 25 [(0, .ref a0), (1, .int x1)] [.int xs0, .int xs1, .ref as2] h Q := by
  exact wp_ias ⟨rfl, rfl⟩ e rfl hx hi hl (wp_weak (re_sb_at rfl (re_sb_at rfl (re_sb_nil _))) K)
theorem B195_26 {SC : List Value} {d s : Nat} {h : re_H} {Q : Nat → Value → re_H → Prop} {a0 : Nat} {x1 : Int32}
    {ae1 : Nat} (e2 : nb_fd h a0 3 4 (.ref ae1)) {w : List Value} {i : Nat} (e : re_hg h ae1 = some (100, w)) (hx : x1 = i32 i) (hi : i < 2147483648) (hl : i < w.length) (K : wp SC 195 d s 33 [(0, .ref a0), (1, .int x1)] [] (re_hw h ae1 (100, w.set i (.int (i32 0)))) Q) : wp SC 195 d s 26 [(0, .ref a0), (1, .int x1)] [] h Q := by
  refine wp_run 1 (pc' := 27) (lv' := [(0, .ref a0), (1, .int x1)]) (st' := [.ref a0]) rfl ?_
  obtain ⟨w2, e2a, e2b⟩ := e2
  refine wp_gf ⟨rfl, rfl⟩ rfl e2a e2b ?_
  refine wp_run 2 (pc' := 32) (lv' := [(0, .ref a0), (1, .int x1)]) (st' := [.int (i32 0), .int x1, .ref ae1]) rfl ?_
  exact wp_ias ⟨rfl, rfl⟩ e rfl hx hi hl (wp_weak (re_sb_at rfl (re_sb_at rfl (re_sb_nil _))) K)
theorem B195_33 {SC : List Value} {d s : Nat} {h : re_H} {Q : Nat → Value → re_H → Prop} {a0 : Nat} {x1 : Int32}
    (K : wp SC 195 d s 35 [(0, .ref a0), (1, .int x1), (2, .int (i32 0))] [] h Q) : wp SC 195 d s 33 [(0, .ref a0), (1, .int x1)] [] h Q := by
  refine wp_run 2 (pc' := 35) (lv' := [(2, .int (i32 0)), (0, .ref a0), (1, .int x1)]) (st' := []) rfl ?_
  exact wp_weak (re_sb_at rfl (re_sb_at rfl (re_sb_at rfl (re_sb_nil _)))) K
theorem B195_35 {SC : List Value} {d s : Nat} {h : re_H} {Q : Nat → Value → re_H → Prop} {a0 : Nat} {x1 : Int32} {x2 : Int32}
    (K1 : ¬ x2 < (i32 16) → wp SC 195 d s 76 [(0, .ref a0), (1, .int x1)] [] h Q) (K2 : x2 < (i32 16) → wp SC 195 d s 41 [(0, .ref a0), (1, .int x1), (2, .int x2)] [] h Q) : wp SC 195 d s 35 [(0, .ref a0), (1, .int x1), (2, .int x2)] [] h Q := by
  refine wp_run 1 (pc' := 36) (lv' := [(0, .ref a0), (1, .int x1), (2, .int x2)]) (st' := [.int x2]) rfl ?_
  refine wp_bi (x := (i32 16)) ⟨rfl, rfl⟩ (by decide) ?_
  exact wp_cmp ⟨rfl, rfl⟩ rfl (fun hc => wp_weak (re_sb_at rfl (re_sb_at rfl (re_sb_nil _))) (K1 (ic1_ge hc))) (fun hc => wp_weak (re_sb_at rfl (re_sb_at rfl (re_sb_at rfl (re_sb_nil _)))) (K2 (ic0_ge hc)))
theorem B195_41 {SC : List Value} {d s : Nat} {h : re_H} {Q : Nat → Value → re_H → Prop} {a0 : Nat} {x1 : Int32} {x2 : Int32}
    {ae1 : Nat} (e2 : nb_fd h a0 3 3 (.ref ae1)) {xe3 : Int32} (e4 : nb_ar h ae1 100 x1 (.int xe3)) (K1 : ¬ ((xe3 >>> (x2 &&& 31)) &&& (i32 1)) = (i32 1) → wp SC 195 d s 70 [(0, .ref a0), (1, .int x1), (2, .int x2)] [] h Q) (K2 : ((xe3 >>> (x2 &&& 31)) &&& (i32 1)) = (i32 1) → wp SC 195 d s 55 [(0, .ref a0), (1, .int x1), (2, .int x2)] [] h Q) : wp SC 195 d s 41 [(0, .ref a0), (1, .int x1), (2, .int x2)] [] h Q := by
  refine wp_run 1 (pc' := 42) (lv' := [(0, .ref a0), (1, .int x1), (2, .int x2)]) (st' := [.ref a0]) rfl ?_
  obtain ⟨w2, e2a, e2b⟩ := e2
  refine wp_gf ⟨rfl, rfl⟩ rfl e2a e2b ?_
  refine wp_run 1 (pc' := 46) (lv' := [(0, .ref a0), (1, .int x1), (2, .int x2)]) (st' := [.int x1, .ref ae1]) rfl ?_
  obtain ⟨w4, i4, e4a, e4x, e4i, e4v⟩ := e4
  refine wp_ial ⟨rfl, rfl⟩ e4a rfl e4x e4i e4v ?_
  refine wp_run 5 (pc' := 52) (lv' := [(0, .ref a0), (1, .int x1), (2, .int x2)]) (st' := [.int (i32 1), .int ((xe3 >>> (x2 &&& 31)) &&& (i32 1))]) rfl ?_
  exact wp_cmp ⟨rfl, rfl⟩ rfl (fun hc => wp_weak (re_sb_at rfl (re_sb_at rfl (re_sb_at rfl (re_sb_nil _)))) (K1 (ic1_ne hc))) (fun hc => wp_weak (re_sb_at rfl (re_sb_at rfl (re_sb_at rfl (re_sb_nil _)))) (K2 (ic0_ne hc)))
theorem B195_55 {SC : List Value} {d s : Nat} {h : re_H} {Q : Nat → Value → re_H → Prop} {a0 : Nat} {x1 : Int32} {x2 : Int32}
    {ae1 : Nat} (e2 : nb_fd h a0 3 4 (.ref ae1)) {xe3 : Int32} (e4 : nb_ar h ae1 100 x1 (.int xe3)) {ae5 : Nat} (e6 : nb_fd h a0 3 1 (.ref ae5)) {xe7 : Int32} (e8 : nb_ar h ae5 100 x2 (.int xe7)) {w : List Value} {i : Nat} (e : re_hg h ae1 = some (100, w)) (hx : x1 = i32 i) (hi : i < 2147483648) (hl : i < w.length) (K : wp SC 195 d s 70 [(0, .ref a0), (1, .int x1), (2, .int x2)] [] (re_hw h ae1 (100, w.set i (.int (xe3 ||| xe7)))) Q) : wp SC 195 d s 55 [(0, .ref a0), (1, .int x1), (2, .int x2)] [] h Q := by
  refine wp_run 1 (pc' := 56) (lv' := [(0, .ref a0), (1, .int x1), (2, .int x2)]) (st' := [.ref a0]) rfl ?_
  obtain ⟨w2, e2a, e2b⟩ := e2
  refine wp_gf ⟨rfl, rfl⟩ rfl e2a e2b ?_
  refine wp_run 2 (pc' := 61) (lv' := [(0, .ref a0), (1, .int x1), (2, .int x2)]) (st' := [.int x1, .ref ae1, .int x1, .ref ae1]) rfl ?_
  obtain ⟨w4, i4, e4a, e4x, e4i, e4v⟩ := e4
  refine wp_ial ⟨rfl, rfl⟩ e4a rfl e4x e4i e4v ?_
  refine wp_run 1 (pc' := 63) (lv' := [(0, .ref a0), (1, .int x1), (2, .int x2)]) (st' := [.ref a0, .int xe3, .int x1, .ref ae1]) rfl ?_
  obtain ⟨w6, e6a, e6b⟩ := e6
  refine wp_gf ⟨rfl, rfl⟩ rfl e6a e6b ?_
  refine wp_run 1 (pc' := 67) (lv' := [(0, .ref a0), (1, .int x1), (2, .int x2)]) (st' := [.int x2, .ref ae5, .int xe3, .int x1, .ref ae1]) rfl ?_
  obtain ⟨w8, i8, e8a, e8x, e8i, e8v⟩ := e8
  refine wp_ial ⟨rfl, rfl⟩ e8a rfl e8x e8i e8v ?_
  refine wp_run 1 (pc' := 69) (lv' := [(0, .ref a0), (1, .int x1), (2, .int x2)]) (st' := [.int (xe3 ||| xe7), .int x1, .ref ae1]) rfl ?_
  exact wp_ias ⟨rfl, rfl⟩ e rfl hx hi hl (wp_weak (re_sb_at rfl (re_sb_at rfl (re_sb_at rfl (re_sb_nil _)))) K)
theorem B195_70 {SC : List Value} {d s : Nat} {h : re_H} {Q : Nat → Value → re_H → Prop} {a0 : Nat} {x1 : Int32} {x2 : Int32}
    (K : wp SC 195 d s 35 [(0, .ref a0), (1, .int x1), (2, .int (x2 + (i32 1)))] [] h Q) : wp SC 195 d s 70 [(0, .ref a0), (1, .int x1), (2, .int x2)] [] h Q := by
  refine wp_run 2 (pc' := 35) (lv' := [(2, .int (x2 + (i32 1))), (0, .ref a0), (1, .int x1)]) (st' := []) rfl ?_
  exact wp_weak (re_sb_at rfl (re_sb_at rfl (re_sb_at rfl (re_sb_nil _)))) K
theorem B195_76 {SC : List Value} {d s : Nat} {h : re_H} {Q : Nat → Value → re_H → Prop} {a0 : Nat} {x1 : Int32}
    (K : wp SC 195 d s 2 [(0, .ref a0), (1, .int (x1 + (i32 1)))] [] h Q) : wp SC 195 d s 76 [(0, .ref a0), (1, .int x1)] [] h Q := by
  refine wp_run 2 (pc' := 2) (lv' := [(1, .int (x1 + (i32 1))), (0, .ref a0)]) (st' := []) rfl ?_
  exact wp_weak (re_sb_at rfl (re_sb_at rfl (re_sb_nil _))) K
theorem B195_82 {SC : List Value} {d s : Nat} {h : re_H} {Q : Nat → Value → re_H → Prop} 
    (K : Q 0 .null h) : wp SC 195 d s 82 [] [] h Q := by
  exact wp_retv ⟨rfl, rfl⟩ rfl K
theorem B196_0 {SC : List Value} {d s : Nat} {h : re_H} {Q : Nat → Value → re_H → Prop} {a0 : Nat}
    (K : wp SC 196 d s 2 [(0, .ref a0), (1, .int (i32 0))] [] h Q) : wp SC 196 d s 0 [(0, .ref a0)] [] h Q := by
  refine wp_run 2 (pc' := 2) (lv' := [(1, .int (i32 0)), (0, .ref a0)]) (st' := []) rfl ?_
  exact wp_weak (re_sb_at rfl (re_sb_at rfl (re_sb_nil _))) K
theorem B196_2 {SC : List Value} {d s : Nat} {h : re_H} {Q : Nat → Value → re_H → Prop} {a0 : Nat} {x1 : Int32}
    (K1 : ¬ x1 < (i32 12) → wp SC 196 d s 26 [(0, .ref a0)] [] h Q) (K2 : x1 < (i32 12) → wp SC 196 d s 8 [(0, .ref a0), (1, .int x1)] [] h Q) : wp SC 196 d s 2 [(0, .ref a0), (1, .int x1)] [] h Q := by
  refine wp_run 1 (pc' := 3) (lv' := [(0, .ref a0), (1, .int x1)]) (st' := [.int x1]) rfl ?_
  refine wp_bi (x := (i32 12)) ⟨rfl, rfl⟩ (by decide) ?_
  exact wp_cmp ⟨rfl, rfl⟩ rfl (fun hc => wp_weak (re_sb_at rfl (re_sb_nil _)) (K1 (ic1_ge hc))) (fun hc => wp_weak (re_sb_at rfl (re_sb_at rfl (re_sb_nil _))) (K2 (ic0_ge hc)))
theorem B196_8 {SC : List Value} {d s : Nat} {h : re_H} {Q : Nat → Value → re_H → Prop} {a0 : Nat} {x1 : Int32}
    {ae1 : Nat} (e2 : nb_fd h a0 3 5 (.ref ae1)) {ae3 : Nat} (e4 : nb_fd h a0 3 4 (.ref ae3)) {xe5 : Int32} (e6 : nb_ar h ae3 100 x1 (.int xe5)) {w : List Value} {i : Nat} (e : re_hg h ae1 = some (100, w)) (hx : x1 = i32 i) (hi : i < 2147483648) (hl : i < w.length) (K : wp SC 196 d s 20 [(0, .ref a0), (1, .int x1)] [] (re_hw h ae1 (100, w.set i (.int xe5))) Q) : wp SC 196 d s 8 [(0, .ref a0), (1, .int x1)] [] h Q := by
  refine wp_run 1 (pc' := 9) (lv' := [(0, .ref a0), (1, .int x1)]) (st' := [.ref a0]) rfl ?_
  obtain ⟨w2, e2a, e2b⟩ := e2
  refine wp_gf ⟨rfl, rfl⟩ rfl e2a e2b ?_
  refine wp_run 2 (pc' := 14) (lv' := [(0, .ref a0), (1, .int x1)]) (st' := [.ref a0, .int x1, .ref ae1]) rfl ?_
  obtain ⟨w4, e4a, e4b⟩ := e4
  refine wp_gf ⟨rfl, rfl⟩ rfl e4a e4b ?_
  refine wp_run 1 (pc' := 18) (lv' := [(0, .ref a0), (1, .int x1)]) (st' := [.int x1, .ref ae3, .int x1, .ref ae1]) rfl ?_
  obtain ⟨w6, i6, e6a, e6x, e6i, e6v⟩ := e6
  refine wp_ial ⟨rfl, rfl⟩ e6a rfl e6x e6i e6v ?_
  exact wp_ias ⟨rfl, rfl⟩ e rfl hx hi hl (wp_weak (re_sb_at rfl (re_sb_at rfl (re_sb_nil _))) K)
theorem B196_20 {SC : List Value} {d s : Nat} {h : re_H} {Q : Nat → Value → re_H → Prop} {a0 : Nat} {x1 : Int32}
    (K : wp SC 196 d s 2 [(0, .ref a0), (1, .int (x1 + (i32 1)))] [] h Q) : wp SC 196 d s 20 [(0, .ref a0), (1, .int x1)] [] h Q := by
  refine wp_run 2 (pc' := 2) (lv' := [(1, .int (x1 + (i32 1))), (0, .ref a0)]) (st' := []) rfl ?_
  exact wp_weak (re_sb_at rfl (re_sb_at rfl (re_sb_nil _))) K
theorem B196_26 {SC : List Value} {d s : Nat} {h : re_H} {Q : Nat → Value → re_H → Prop} {a0 : Nat}
    (K : wp SC 196 d s 28 [(0, .ref a0), (1, .int (i32 0))] [] h Q) : wp SC 196 d s 26 [(0, .ref a0)] [] h Q := by
  refine wp_run 2 (pc' := 28) (lv' := [(1, .int (i32 0)), (0, .ref a0)]) (st' := []) rfl ?_
  exact wp_weak (re_sb_at rfl (re_sb_at rfl (re_sb_nil _))) K
theorem B196_28 {SC : List Value} {d s : Nat} {h : re_H} {Q : Nat → Value → re_H → Prop} {a0 : Nat} {x1 : Int32}
    (K1 : ¬ x1 < (i32 12) → wp SC 196 d s 83 [] [] h Q) (K2 : x1 < (i32 12) → wp SC 196 d s 34 [(0, .ref a0), (1, .int x1)] [] h Q) : wp SC 196 d s 28 [(0, .ref a0), (1, .int x1)] [] h Q := by
  refine wp_run 1 (pc' := 29) (lv' := [(0, .ref a0), (1, .int x1)]) (st' := [.int x1]) rfl ?_
  refine wp_bi (x := (i32 12)) ⟨rfl, rfl⟩ (by decide) ?_
  exact wp_cmp ⟨rfl, rfl⟩ rfl (fun hc => wp_weak (re_sb_nil _) (K1 (ic1_ge hc))) (fun hc => wp_weak (re_sb_at rfl (re_sb_at rfl (re_sb_nil _))) (K2 (ic0_ge hc)))
theorem B196_34 {SC : List Value} {d s : Nat} {h : re_H} {Q : Nat → Value → re_H → Prop} {a0 : Nat} {x1 : Int32}
    (K : wp SC 196 d s 36 [(0, .ref a0), (1, .int x1), (2, .int (i32 0))] [] h Q) : wp SC 196 d s 34 [(0, .ref a0), (1, .int x1)] [] h Q := by
  refine wp_run 2 (pc' := 36) (lv' := [(2, .int (i32 0)), (0, .ref a0), (1, .int x1)]) (st' := []) rfl ?_
  exact wp_weak (re_sb_at rfl (re_sb_at rfl (re_sb_at rfl (re_sb_nil _)))) K
theorem B196_36 {SC : List Value} {d s : Nat} {h : re_H} {Q : Nat → Value → re_H → Prop} {a0 : Nat} {x1 : Int32} {x2 : Int32}
    (K1 : ¬ x2 < (i32 12) → wp SC 196 d s 77 [(0, .ref a0), (1, .int x1)] [] h Q) (K2 : x2 < (i32 12) → wp SC 196 d s 42 [(0, .ref a0), (1, .int x1), (2, .int x2)] [] h Q) : wp SC 196 d s 36 [(0, .ref a0), (1, .int x1), (2, .int x2)] [] h Q := by
  refine wp_run 1 (pc' := 37) (lv' := [(0, .ref a0), (1, .int x1), (2, .int x2)]) (st' := [.int x2]) rfl ?_
  refine wp_bi (x := (i32 12)) ⟨rfl, rfl⟩ (by decide) ?_
  exact wp_cmp ⟨rfl, rfl⟩ rfl (fun hc => wp_weak (re_sb_at rfl (re_sb_at rfl (re_sb_nil _))) (K1 (ic1_ge hc))) (fun hc => wp_weak (re_sb_at rfl (re_sb_at rfl (re_sb_at rfl (re_sb_nil _)))) (K2 (ic0_ge hc)))
theorem B196_42 {SC : List Value} {d s : Nat} {h : re_H} {Q : Nat → Value → re_H → Prop} {a0 : Nat} {x1 : Int32} {x2 : Int32}
    {ae1 : Nat} (e2 : nb_fd h a0 3 5 (.ref ae1)) {xe3 : Int32} (e4 : nb_ar h ae1 100 x2 (.int xe3)) (K1 : ¬ ((xe3 >>> (x1 &&& 31)) &&& (i32 1)) = (i32 1) → wp SC 196 d s 71 [(0, .ref a0), (1, .int x1), (2, .int x2)] [] h Q) (K2 : ((xe3 >>> (x1 &&& 31)) &&& (i32 1)) = (i32 1) → wp SC 196 d s 56 [(0, .ref a0), (1, .int x1), (2, .int x2)] [] h Q) : wp SC 196 d s 42 [(0, .ref a0), (1, .int x1), (2, .int x2)] [] h Q := by
  refine wp_run 1 (pc' := 43) (lv' := [(0, .ref a0), (1, .int x1), (2, .int x2)]) (st' := [.ref a0]) rfl ?_
  obtain ⟨w2, e2a, e2b⟩ := e2
  refine wp_gf ⟨rfl, rfl⟩ rfl e2a e2b ?_
  refine wp_run 1 (pc' := 47) (lv' := [(0, .ref a0), (1, .int x1), (2, .int x2)]) (st' := [.int x2, .ref ae1]) rfl ?_
  obtain ⟨w4, i4, e4a, e4x, e4i, e4v⟩ := e4
  refine wp_ial ⟨rfl, rfl⟩ e4a rfl e4x e4i e4v ?_
  refine wp_run 5 (pc' := 53) (lv' := [(0, .ref a0), (1, .int x1), (2, .int x2)]) (st' := [.int (i32 1), .int ((xe3 >>> (x1 &&& 31)) &&& (i32 1))]) rfl ?_
  exact wp_cmp ⟨rfl, rfl⟩ rfl (fun hc => wp_weak (re_sb_at rfl (re_sb_at rfl (re_sb_at rfl (re_sb_nil _)))) (K1 (ic1_ne hc))) (fun hc => wp_weak (re_sb_at rfl (re_sb_at rfl (re_sb_at rfl (re_sb_nil _)))) (K2 (ic0_ne hc)))
theorem B196_56 {SC : List Value} {d s : Nat} {h : re_H} {Q : Nat → Value → re_H → Prop} {a0 : Nat} {x1 : Int32} {x2 : Int32}
    {ae1 : Nat} (e2 : nb_fd h a0 3 5 (.ref ae1)) {xe3 : Int32} (e4 : nb_ar h ae1 100 x2 (.int xe3)) {ae5 : Nat} (e6 : nb_fd h a0 3 5 (.ref ae5)) {xe7 : Int32} (e8 : nb_ar h ae5 100 x1 (.int xe7)) {w : List Value} {i : Nat} (e : re_hg h ae1 = some (100, w)) (hx : x2 = i32 i) (hi : i < 2147483648) (hl : i < w.length) (K : wp SC 196 d s 71 [(0, .ref a0), (1, .int x1), (2, .int x2)] [] (re_hw h ae1 (100, w.set i (.int (xe3 ||| xe7)))) Q) : wp SC 196 d s 56 [(0, .ref a0), (1, .int x1), (2, .int x2)] [] h Q := by
  refine wp_run 1 (pc' := 57) (lv' := [(0, .ref a0), (1, .int x1), (2, .int x2)]) (st' := [.ref a0]) rfl ?_
  obtain ⟨w2, e2a, e2b⟩ := e2
  refine wp_gf ⟨rfl, rfl⟩ rfl e2a e2b ?_
  refine wp_run 2 (pc' := 62) (lv' := [(0, .ref a0), (1, .int x1), (2, .int x2)]) (st' := [.int x2, .ref ae1, .int x2, .ref ae1]) rfl ?_
  obtain ⟨w4, i4, e4a, e4x, e4i, e4v⟩ := e4
  refine wp_ial ⟨rfl, rfl⟩ e4a rfl e4x e4i e4v ?_
  refine wp_run 1 (pc' := 64) (lv' := [(0, .ref a0), (1, .int x1), (2, .int x2)]) (st' := [.ref a0, .int xe3, .int x2, .ref ae1]) rfl ?_
  obtain ⟨w6, e6a, e6b⟩ := e6
  refine wp_gf ⟨rfl, rfl⟩ rfl e6a e6b ?_
  refine wp_run 1 (pc' := 68) (lv' := [(0, .ref a0), (1, .int x1), (2, .int x2)]) (st' := [.int x1, .ref ae5, .int xe3, .int x2, .ref ae1]) rfl ?_
  obtain ⟨w8, i8, e8a, e8x, e8i, e8v⟩ := e8
  refine wp_ial ⟨rfl, rfl⟩ e8a rfl e8x e8i e8v ?_
  refine wp_run 1 (pc' := 70) (lv' := [(0, .ref a0), (1, .int x1), (2, .int x2)]) (st' := [.int (xe3 ||| xe7), .int x2, .ref ae1]) rfl ?_
  exact wp_ias ⟨rfl, rfl⟩ e rfl hx hi hl (wp_weak (re_sb_at rfl (re_sb_at rfl (re_sb_at rfl (re_sb_nil _)))) K)
theorem B196_71 {SC : List Value} {d s : Nat} {h : re_H} {Q : Nat → Value → re_H → Prop} {a0 : Nat} {x1 : Int32} {x2 : Int32}
    (K : wp SC 196 d s 36 [(0, .ref a0), (1, .int x1), (2, .int (x2 + (i32 1)))] [] h Q) : wp SC 196 d s 71 [(0, .ref a0), (1, .int x1), (2, .int x2)] [] h Q := by
  refine wp_run 2 (pc' := 36) (lv' := [(2, .int (x2 + (i32 1))), (0, .ref a0), (1, .int x1)]) (st' := []) rfl ?_
  exact wp_weak (re_sb_at rfl (re_sb_at rfl (re_sb_at rfl (re_sb_nil _)))) K
theorem B196_77 {SC : List Value} {d s : Nat} {h : re_H} {Q : Nat → Value → re_H → Prop} {a0 : Nat} {x1 : Int32}
    (K : wp SC 196 d s 28 [(0, .ref a0), (1, .int (x1 + (i32 1)))] [] h Q) : wp SC 196 d s 77 [(0, .ref a0), (1, .int x1)] [] h Q := by
  refine wp_run 2 (pc' := 28) (lv' := [(1, .int (x1 + (i32 1))), (0, .ref a0)]) (st' := []) rfl ?_
  exact wp_weak (re_sb_at rfl (re_sb_at rfl (re_sb_nil _))) K
theorem B196_83 {SC : List Value} {d s : Nat} {h : re_H} {Q : Nat → Value → re_H → Prop} 
    (K : Q 0 .null h) : wp SC 196 d s 83 [] [] h Q := by
  exact wp_retv ⟨rfl, rfl⟩ rfl K
set_option maxRecDepth 20000 in
theorem B197_0 {SC : List Value} {d s : Nat} {h : re_H} {Q : Nat → Value → re_H → Prop} {a0 : Nat} {x1 : Int32}
    {ae1 : Nat} (e2 : nb_fd h a0 3 0 (.ref ae1)) {ae3 : Nat} (e4 : nb_fd h ae1 1 1 (.ref ae3)) {ae5 : Nat} (e6 : nb_ar h ae3 104 x1 (.ref ae5)) {c : Nat} {w : List Value} (eg : re_hg h ae5 = some (c, w)) (ec : c = 2) (K : wp SC 130 d 0 0 [(0, .ref ae5)] [] h (wp_ret SC 197 (d + 1) s 12 [(0, .ref a0), (1, .int x1)] [] Q)) : wp SC 197 (d + 1) s 0 [(0, .ref a0), (1, .int x1)] [] h Q := by
  refine wp_run 1 (pc' := 1) (lv' := [(0, .ref a0), (1, .int x1)]) (st' := [.ref a0]) rfl ?_
  obtain ⟨w2, e2a, e2b⟩ := e2
  refine wp_gf ⟨rfl, rfl⟩ rfl e2a e2b ?_
  obtain ⟨w4, e4a, e4b⟩ := e4
  refine wp_gf ⟨rfl, rfl⟩ rfl e4a e4b ?_
  refine wp_run 1 (pc' := 8) (lv' := [(0, .ref a0), (1, .int x1)]) (st' := [.int x1, .ref ae3]) rfl ?_
  obtain ⟨w6, i6, e6a, e6x, e6i, e6v⟩ := e6
  refine wp_aal ⟨rfl, rfl⟩ e6a ⟨by decide, by decide⟩ e6x e6i e6v ?_
  have eA : lv_args 0 (.ref ae5 :: [].reverse) = [(0, .ref ae5)] := by simp [lv_args, vc_i, vc_l, vc_r, vc_n, vc_a]
  refine wp_callV (ar := []) (rest := []) (s1 := 0) (s2 := s) (d' := d) ⟨rfl, rfl⟩ rfl (Or.inl rfl)  (by simp [re_cat, vc_i, vc_l, vc_r, vc_n, vc_a]) (by rw [show re_cat (.ref ae5 :: [].reverse) = 1 from by simp [re_cat, vc_i, vc_l, vc_r, vc_n, vc_a]]; decide) (by decide) rfl eg ec rfl (Nat.le_of_eq (Nat.zero_add s)) ?_
  rw [eA]
  exact wp_mono K (fun k v h' z => wp_ret_weak (re_sb_at rfl (re_sb_at rfl (re_sb_nil _))) z)
set_option maxRecDepth 20000 in
theorem B197_12 {SC : List Value} {d s : Nat} {h : re_H} {Q : Nat → Value → re_H → Prop} {a0 : Nat} {x1 : Int32} {xs0 : Int32}
    (K : wp SC 197 d s 18 [(0, .ref a0), (1, .int x1), (2, .int xs0), (3, .int (i32 0)), (4, .int (i32 0))] [] h Q) : wp SC 197 d s 12 [(0, .ref a0), (1, .int x1)] [.int xs0] h Q := by
  refine wp_run 5 (pc' := 18) (lv' := [(4, .int (i32 0)), (3, .int (i32 0)), (2, .int xs0), (0, .ref a0), (1, .int x1)]) (st' := []) rfl ?_
  exact wp_weak (re_sb_at rfl (re_sb_at rfl (re_sb_at rfl (re_sb_at rfl (re_sb_at rfl (re_sb_nil _)))))) K
set_option maxRecDepth 20000 in
theorem B197_18 {SC : List Value} {d s : Nat} {h : re_H} {Q : Nat → Value → re_H → Prop} {a0 : Nat} {x1 : Int32} {x2 : Int32} {x3 : Int32} {x4 : Int32}
    (K1 : ¬ x4 < (i32 16) → wp SC 197 d s 87 [(0, .ref a0), (1, .int x1), (3, .int x3)] [] h Q) (K2 : x4 < (i32 16) → wp SC 197 d s 25 [(0, .ref a0), (1, .int x1), (2, .int x2), (3, .int x3), (4, .int x4)] [] h Q) : wp SC 197 d s 18 [(0, .ref a0), (1, .int x1), (2, .int x2), (3, .int x3), (4, .int x4)] [] h Q := by
  refine wp_run 1 (pc' := 20) (lv' := [(0, .ref a0), (1, .int x1), (2, .int x2), (3, .int x3), (4, .int x4)]) (st' := [.int x4]) rfl ?_
  refine wp_bi (x := (i32 16)) ⟨rfl, rfl⟩ (by decide) ?_
  exact wp_cmp ⟨rfl, rfl⟩ rfl (fun hc => wp_weak (re_sb_at rfl (re_sb_at rfl (re_sb_at rfl (re_sb_nil _)))) (K1 (ic1_ge hc))) (fun hc => wp_weak (re_sb_at rfl (re_sb_at rfl (re_sb_at rfl (re_sb_at rfl (re_sb_at rfl (re_sb_nil _)))))) (K2 (ic0_ge hc)))
set_option maxRecDepth 20000 in
theorem B197_25 {SC : List Value} {d s : Nat} {h : re_H} {Q : Nat → Value → re_H → Prop} {a0 : Nat} {x1 : Int32} {x2 : Int32} {x3 : Int32} {x4 : Int32}
    (K1 : ¬ ((x2 >>> (x4 &&& 31)) &&& (i32 1)) = (i32 1) → wp SC 197 d s 48 [(0, .ref a0), (1, .int x1), (2, .int x2), (3, .int x3), (4, .int x4)] [] h Q) (K2 : ((x2 >>> (x4 &&& 31)) &&& (i32 1)) = (i32 1) → wp SC 197 d s 35 [(0, .ref a0), (1, .int x1), (2, .int x2), (3, .int x3), (4, .int x4)] [] h Q) : wp SC 197 d s 25 [(0, .ref a0), (1, .int x1), (2, .int x2), (3, .int x3), (4, .int x4)] [] h Q := by
  refine wp_run 6 (pc' := 32) (lv' := [(0, .ref a0), (1, .int x1), (2, .int x2), (3, .int x3), (4, .int x4)]) (st' := [.int (i32 1), .int ((x2 >>> (x4 &&& 31)) &&& (i32 1))]) rfl ?_
  exact wp_cmp ⟨rfl, rfl⟩ rfl (fun hc => wp_weak (re_sb_at rfl (re_sb_at rfl (re_sb_at rfl (re_sb_at rfl (re_sb_at rfl (re_sb_nil _)))))) (K1 (ic1_ne hc))) (fun hc => wp_weak (re_sb_at rfl (re_sb_at rfl (re_sb_at rfl (re_sb_at rfl (re_sb_at rfl (re_sb_nil _)))))) (K2 (ic0_ne hc)))
set_option maxRecDepth 20000 in
theorem B197_35 {SC : List Value} {d s : Nat} {h : re_H} {Q : Nat → Value → re_H → Prop} {a0 : Nat} {x1 : Int32} {x2 : Int32} {x3 : Int32} {x4 : Int32}
    {ae1 : Nat} (e2 : nb_fd h a0 3 2 (.ref ae1)) {xe3 : Int32} (e4 : nb_ar h ae1 100 x4 (.int xe3)) (K1 : xe3 = x1 → wp SC 197 d s 48 [(0, .ref a0), (1, .int x1), (2, .int x2), (3, .int x3), (4, .int x4)] [] h Q) (K2 : ¬ xe3 = x1 → wp SC 197 d s 46 [] [] h Q) : wp SC 197 d s 35 [(0, .ref a0), (1, .int x1), (2, .int x2), (3, .int x3), (4, .int x4)] [] h Q := by
  refine wp_run 1 (pc' := 36) (lv' := [(0, .ref a0), (1, .int x1), (2, .int x2), (3, .int x3), (4, .int x4)]) (st' := [.ref a0]) rfl ?_
  obtain ⟨w2, e2a, e2b⟩ := e2
  refine wp_gf ⟨rfl, rfl⟩ rfl e2a e2b ?_
  refine wp_run 1 (pc' := 41) (lv' := [(0, .ref a0), (1, .int x1), (2, .int x2), (3, .int x3), (4, .int x4)]) (st' := [.int x4, .ref ae1]) rfl ?_
  obtain ⟨w4, i4, e4a, e4x, e4i, e4v⟩ := e4
  refine wp_ial ⟨rfl, rfl⟩ e4a rfl e4x e4i e4v ?_
  refine wp_run 1 (pc' := 43) (lv' := [(0, .ref a0), (1, .int x1), (2, .int x2), (3, .int x3), (4, .int x4)]) (st' := [.int x1, .int xe3]) rfl ?_
  exact wp_cmp ⟨rfl, rfl⟩ rfl (fun hc => wp_weak (re_sb_at rfl (re_sb_at rfl (re_sb_at rfl (re_sb_at rfl (re_sb_at rfl (re_sb_nil _)))))) (K1 (ic1_eq hc))) (fun hc => wp_weak (re_sb_nil _) (K2 (ic0_eq hc)))
set_option maxRecDepth 20000 in
theorem B197_46 {SC : List Value} {d s : Nat} {h : re_H} {Q : Nat → Value → re_H → Prop} 
    (K : Q 1 (.int (i32 1)) h) : wp SC 197 d s 46 [] [] h Q := by
  refine wp_run 1 (pc' := 47) (lv' := []) (st' := [.int (i32 1)]) rfl ?_
  exact wp_reti ⟨rfl, rfl⟩ rfl K
set_option maxRecDepth 20000 in
theorem B197_48 {SC : List Value} {d s : Nat} {h : re_H} {Q : Nat → Value → re_H → Prop} {a0 : Nat} {x1 : Int32} {x2 : Int32} {x3 : Int32} {x4 : Int32}
    {ae1 : Nat} (e2 : nb_fd h a0 3 3 (.ref ae1)) {xe3 : Int32} (e4 : nb_ar h ae1 100 x1 (.int xe3)) (K1 : ¬ ((xe3 >>> (x4 &&& 31)) &&& (i32 1)) = (i32 1) → wp SC 197 d s 78 [(0, .ref a0), (1, .int x1), (2, .int x2), (4, .int x4)] [.int x3] h Q) (K2 : ((xe3 >>> (x4 &&& 31)) &&& (i32 1)) = (i32 1) → wp SC 197 d s 64 [(0, .ref a0), (1, .int x1), (2, .int x2), (4, .int x4)] [.int x3] h Q) : wp SC 197 d s 48 [(0, .ref a0), (1, .int x1), (2, .int x2), (3, .int x3), (4, .int x4)] [] h Q := by
  refine wp_run 2 (pc' := 50) (lv' := [(0, .ref a0), (1, .int x1), (2, .int x2), (3, .int x3), (4, .int x4)]) (st' := [.ref a0, .int x3]) rfl ?_
  obtain ⟨w2, e2a, e2b⟩ := e2
  refine wp_gf ⟨rfl, rfl⟩ rfl e2a e2b ?_
  refine wp_run 1 (pc' := 54) (lv' := [(0, .ref a0), (1, .int x1), (2, .int x2), (3, .int x3), (4, .int x4)]) (st' := [.int x1, .ref ae1, .int x3]) rfl ?_
  obtain ⟨w4, i4, e4a, e4x, e4i, e4v⟩ := e4
  refine wp_ial ⟨rfl, rfl⟩ e4a rfl e4x e4i e4v ?_
  refine wp_run 5 (pc' := 61) (lv' := [(0, .ref a0), (1, .int x1), (2, .int x2), (3, .int x3), (4, .int x4)]) (st' := [.int (i32 1), .int ((xe3 >>> (x4 &&& 31)) &&& (i32 1)), .int x3]) rfl ?_
  exact wp_cmp ⟨rfl, rfl⟩ rfl (fun hc => wp_weak (re_sb_at rfl (re_sb_at rfl (re_sb_at rfl (re_sb_at rfl (re_sb_nil _))))) (K1 (ic1_ne hc))) (fun hc => wp_weak (re_sb_at rfl (re_sb_at rfl (re_sb_at rfl (re_sb_at rfl (re_sb_nil _))))) (K2 (ic0_ne hc)))
set_option maxRecDepth 20000 in
theorem B197_64 {SC : List Value} {d s : Nat} {h : re_H} {Q : Nat → Value → re_H → Prop} {a0 : Nat} {x1 : Int32} {x2 : Int32} {x4 : Int32} {xs0 : Int32}
    {ae1 : Nat} (e2 : nb_fd h a0 3 1 (.ref ae1)) {xe3 : Int32} (e4 : nb_ar h ae1 100 x4 (.int xe3)) (K1 : ¬ xe3 = 0 → wp SC 197 d s 78 [(0, .ref a0), (1, .int x1), (2, .int x2), (4, .int x4)] [.int xs0] h Q) (K2 : xe3 = 0 → wp SC 197 d s 74 [(0, .ref a0), (1, .int x1), (2, .int x2), (4, .int x4)] [.int xs0] h Q) : wp SC 197 d s 64 [(0, .ref a0), (1, .int x1), (2, .int x2), (4, .int x4)] [.int xs0] h Q := by
  refine wp_run 1 (pc' := 65) (lv' := [(0, .ref a0), (1, .int x1), (2, .int x2), (4, .int x4)]) (st' := [.ref a0, .int xs0]) rfl ?_
  obtain ⟨w2, e2a, e2b⟩ := e2
  refine wp_gf ⟨rfl, rfl⟩ rfl e2a e2b ?_
  refine wp_run 1 (pc' := 70) (lv' := [(0, .ref a0), (1, .int x1), (2, .int x2), (4, .int x4)]) (st' := [.int x4, .ref ae1, .int xs0]) rfl ?_
  obtain ⟨w4, i4, e4a, e4x, e4i, e4v⟩ := e4
  refine wp_ial ⟨rfl, rfl⟩ e4a rfl e4x e4i e4v ?_
  exact wp_if ⟨rfl, rfl⟩ rfl (fun hc => wp_weak (re_sb_at rfl (re_sb_at rfl (re_sb_at rfl (re_sb_at rfl (re_sb_nil _))))) (K1 (ic1_ne hc))) (fun hc => wp_weak (re_sb_at rfl (re_sb_at rfl (re_sb_at rfl (re_sb_at rfl (re_sb_nil _))))) (K2 (ic0_ne hc)))
set_option maxRecDepth 20000 in
theorem B197_74 {SC : List Value} {d s : Nat} {h : re_H} {Q : Nat → Value → re_H → Prop} {a0 : Nat} {x1 : Int32} {x2 : Int32} {x4 : Int32} {xs0 : Int32}
    (K : wp SC 197 d s 79 [(0, .ref a0), (1, .int x1), (2, .int x2), (4, .int x4)] [.int (i32 1), .int xs0] h Q) : wp SC 197 d s 74 [(0, .ref a0), (1, .int x1), (2, .int x2), (4, .int x4)] [.int xs0] h Q := by
  refine wp_run 2 (pc' := 79) (lv' := [(0, .ref a0), (1, .int x1), (2, .int x2), (4, .int x4)]) (st' := [.int (i32 1), .int xs0]) rfl ?_
  exact wp_weak (re_sb_at rfl (re_sb_at rfl (re_sb_at rfl (re_sb_at rfl (re_sb_nil _))))) K
set_option maxRecDepth 20000 in
theorem B197_78 {SC : List Value} {d s : Nat} {h : re_H} {Q : Nat → Value → re_H → Prop} {a0 : Nat} {x1 : Int32} {x2 : Int32} {x4 : Int32} {xs0 : Int32}
    (K : wp SC 197 d s 79 [(0, .ref a0), (1, .int x1), (2, .int x2), (4, .int x4)] [.int (i32 0), .int xs0] h Q) : wp SC 197 d s 78 [(0, .ref a0), (1, .int x1), (2, .int x2), (4, .int x4)] [.int xs0] h Q := by
  refine wp_run 1 (pc' := 79) (lv' := [(0, .ref a0), (1, .int x1), (2, .int x2), (4, .int x4)]) (st' := [.int (i32 0), .int xs0]) rfl ?_
  exact wp_weak (re_sb_at rfl (re_sb_at rfl (re_sb_at rfl (re_sb_at rfl (re_sb_nil _))))) K
set_option maxRecDepth 20000 in
theorem B197_79 {SC : List Value} {d s : Nat} {h : re_H} {Q : Nat → Value → re_H → Prop} {a0 : Nat} {x1 : Int32} {x2 : Int32} {x4 : Int32} {xs0 : Int32} {xs1 : Int32}
    (K : wp SC 197 d s 18 [(0, .ref a0), (1, .int x1), (2, .int x2), (3, .int (xs1 ||| xs0)), (4, .int (x4 + (i32 1)))] [] h Q) : wp SC 197 d s 79 [(0, .ref a0), (1, .int x1), (2, .int x2), (4, .int x4)] [.int xs0, .int xs1] h Q := by
  refine wp_run 4 (pc' := 18) (lv' := [(4, .int (x4 + (i32 1))), (3, .int (xs1 ||| xs0)), (0, .ref a0), (1, .int x1), (2, .int x2)]) (st' := []) rfl ?_
  exact wp_weak (re_sb_at rfl (re_sb_at rfl (re_sb_at rfl (re_sb_at rfl (re_sb_at rfl (re_sb_nil _)))))) K
set_option maxRecDepth 20000 in
theorem B197_87 {SC : List Value} {d s : Nat} {h : re_H} {Q : Nat → Value → re_H → Prop} {a0 : Nat} {x1 : Int32} {x3 : Int32}
    {ae1 : Nat} (e2 : nb_fd h a0 3 5 (.ref ae1)) {xe3 : Int32} (e4 : nb_ar h ae1 100 x1 (.int xe3)) (K1 : ¬ ((xe3 >>> (x1 &&& 31)) &&& (i32 1)) = (i32 1) → wp SC 197 d s 103 [(3, .int x3)] [] h Q) (K2 : ((xe3 >>> (x1 &&& 31)) &&& (i32 1)) = (i32 1) → wp SC 197 d s 101 [] [] h Q) : wp SC 197 d s 87 [(0, .ref a0), (1, .int x1), (3, .int x3)] [] h Q := by
  refine wp_run 1 (pc' := 88) (lv' := [(0, .ref a0), (1, .int x1), (3, .int x3)]) (st' := [.ref a0]) rfl ?_
  obtain ⟨w2, e2a, e2b⟩ := e2
  refine wp_gf ⟨rfl, rfl⟩ rfl e2a e2b ?_
  refine wp_run 1 (pc' := 92) (lv' := [(0, .ref a0), (1, .int x1), (3, .int x3)]) (st' := [.int x1, .ref ae1]) rfl ?_
  obtain ⟨w4, i4, e4a, e4x, e4i, e4v⟩ := e4
  refine wp_ial ⟨rfl, rfl⟩ e4a rfl e4x e4i e4v ?_
  refine wp_run 5 (pc' := 98) (lv' := [(0, .ref a0), (1, .int x1), (3, .int x3)]) (st' := [.int (i32 1), .int ((xe3 >>> (x1 &&& 31)) &&& (i32 1))]) rfl ?_
  exact wp_cmp ⟨rfl, rfl⟩ rfl (fun hc => wp_weak (re_sb_at rfl (re_sb_nil _)) (K1 (ic1_ne hc))) (fun hc => wp_weak (re_sb_nil _) (K2 (ic0_ne hc)))
set_option maxRecDepth 20000 in
theorem B197_101 {SC : List Value} {d s : Nat} {h : re_H} {Q : Nat → Value → re_H → Prop} 
    (K : Q 1 (.int (i32 2)) h) : wp SC 197 d s 101 [] [] h Q := by
  refine wp_run 1 (pc' := 102) (lv' := []) (st' := [.int (i32 2)]) rfl ?_
  exact wp_reti ⟨rfl, rfl⟩ rfl K
set_option maxRecDepth 20000 in
theorem B197_103 {SC : List Value} {d s : Nat} {h : re_H} {Q : Nat → Value → re_H → Prop} {x3 : Int32}
    (K1 : x3 = 0 → wp SC 197 d s 111 [] [] h Q) (K2 : ¬ x3 = 0 → wp SC 197 d s 107 [] [] h Q) : wp SC 197 d s 103 [(3, .int x3)] [] h Q := by
  refine wp_run 1 (pc' := 104) (lv' := [(3, .int x3)]) (st' := [.int x3]) rfl ?_
  exact wp_if ⟨rfl, rfl⟩ rfl (fun hc => wp_weak (re_sb_nil _) (K1 (ic1_eq hc))) (fun hc => wp_weak (re_sb_nil _) (K2 (ic0_eq hc)))
set_option maxRecDepth 20000 in
theorem B197_107 {SC : List Value} {d s : Nat} {h : re_H} {Q : Nat → Value → re_H → Prop} 
    (K : wp SC 197 d s 112 [] [.int (i32 3)] h Q) : wp SC 197 d s 107 [] [] h Q := by
  refine wp_run 2 (pc' := 112) (lv' := []) (st' := [.int (i32 3)]) rfl ?_
  exact wp_weak (re_sb_nil _) K
set_option maxRecDepth 20000 in
theorem B197_111 {SC : List Value} {d s : Nat} {h : re_H} {Q : Nat → Value → re_H → Prop} 
    (K : wp SC 197 d s 112 [] [.int (i32 0)] h Q) : wp SC 197 d s 111 [] [] h Q := by
  refine wp_run 1 (pc' := 112) (lv' := []) (st' := [.int (i32 0)]) rfl ?_
  exact wp_weak (re_sb_nil _) K
set_option maxRecDepth 20000 in
theorem B197_112 {SC : List Value} {d s : Nat} {h : re_H} {Q : Nat → Value → re_H → Prop} {xs0 : Int32}
    (K : Q 1 (.int xs0) h) : wp SC 197 d s 112 [] [.int xs0] h Q := by
  exact wp_reti ⟨rfl, rfl⟩ rfl K
