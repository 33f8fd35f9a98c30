theorem B448_0 {SC : List Value} {d s : Nat} {h : re_H} {Q : Nat → Value → re_H → Prop} {a0 : Nat} {a1 : Nat} {a2 : Nat}
    (K : wp SC 448 d s 4 [(0, .ref a0), (1, .ref a1), (2, .ref a2)] [] h Q) : wp SC 448 d s 0 [(0, .ref a0), (1, .ref a1), (2, .ref a2)] [] h Q := by
  refine wp_run 1 (pc' := 1) (lv' := [(0, .ref a0), (1, .ref a1), (2, .ref a2)]) (st' := [.ref a0]) rfl ?_
  refine wp_obj ⟨rfl, rfl⟩ rfl (by simp [re_cat, vc_i, vc_l, vc_r, vc_n, vc_a]) ?_
  exact wp_weak (re_sb_at rfl (re_sb_at rfl (re_sb_at rfl (re_sb_nil _)))) K
theorem B448_4 {SC : List Value} {d s : Nat} {h : re_H} {Q : Nat → Value → re_H → Prop} {a0 : Nat} {a1 : Nat} {a2 : Nat}
    {s' i : Nat} (hx : (i32 604) = i32 i) (hn : i * 8 ≤ 536870912) (hs : i + 2 * s' ≤ 11 + 2 * s) (hs' : s' ≤ s) (K : wp SC 448 d s' 11 [(0, .ref a0), (1, .ref a1), (2, .ref a2)] [.ref h.1, .ref a0] (re_hq h (103, List.replicate i .null)) Q) : wp SC 448 d s 4 [(0, .ref a0), (1, .ref a1), (2, .ref a2)] [] h Q := by
  refine wp_run 1 (pc' := 5) (lv' := [(0, .ref a0), (1, .ref a1), (2, .ref a2)]) (st' := [.ref a0]) rfl ?_
  refine wp_si (x := (i32 604)) ⟨rfl, rfl⟩ (by decide) ?_
  exact wp_ana ⟨rfl, rfl⟩ rfl hx hn hs hs' (wp_weak (re_sb_at rfl (re_sb_at rfl (re_sb_at rfl (re_sb_nil _)))) K)
theorem B448_11 {SC : List Value} {d s : Nat} {h : re_H} {Q : Nat → Value → re_H → Prop} {a0 : Nat} {a1 : Nat} {a2 : Nat} {as0 : Nat} {as1 : Nat}
    {w : List Value} (e : re_hg h as1 = some (7, w)) (hk : 2 < w.length) (K : wp SC 448 d s 14 [(0, .ref a0), (1, .ref a1), (2, .ref a2)] [] (re_hw h as1 (7, w.set 2 (.ref as0))) Q) : wp SC 448 d s 11 [(0, .ref a0), (1, .ref a1), (2, .ref a2)] [.ref as0, .ref as1] h Q := by
  exact wp_pf ⟨rfl, rfl⟩ rfl (Or.inr ⟨rfl, rfl⟩) e hk (fit_a (Or.inr ⟨_, rfl⟩)) (wp_weak (re_sb_at rfl (re_sb_at rfl (re_sb_at rfl (re_sb_nil _)))) K)
theorem B448_14 {SC : List Value} {d s : Nat} {h : re_H} {Q : Nat → Value → re_H → Prop} {a0 : Nat} {a1 : Nat} {a2 : Nat}
    {s' i : Nat} (hx : (i32 604) = i32 i) (hn : i * 8 ≤ 536870912) (hs : i + 2 * s' ≤ 11 + 2 * s) (hs' : s' ≤ s) (K : wp SC 448 d s' 21 [(0, .ref a0), (1, .ref a1), (2, .ref a2)] [.ref h.1, .ref a0] (re_hq h (106, List.replicate i .null)) Q) : wp SC 448 d s 14 [(0, .ref a0), (1, .ref a1), (2, .ref a2)] [] h Q := by
  refine wp_run 1 (pc' := 15) (lv' := [(0, .ref a0), (1, .ref a1), (2, .ref a2)]) (st' := [.ref a0]) rfl ?_
  refine wp_si (x := (i32 604)) ⟨rfl, rfl⟩ (by decide) ?_
  exact wp_ana ⟨rfl, rfl⟩ rfl hx hn hs hs' (wp_weak (re_sb_at rfl (re_sb_at rfl (re_sb_at rfl (re_sb_nil _)))) K)
theorem B448_21 {SC : List Value} {d s : Nat} {h : re_H} {Q : Nat → Value → re_H → Prop} {a0 : Nat} {a1 : Nat} {a2 : Nat} {as0 : Nat} {as1 : Nat}
    {w : List Value} (e : re_hg h as1 = some (7, w)) (hk : 3 < w.length) (K : wp SC 448 d s 24 [(0, .ref a0), (1, .ref a1), (2, .ref a2)] [] (re_hw h as1 (7, w.set 3 (.ref as0))) Q) : wp SC 448 d s 21 [(0, .ref a0), (1, .ref a1), (2, .ref a2)] [.ref as0, .ref as1] h Q := by
  exact wp_pf ⟨rfl, rfl⟩ rfl (Or.inr ⟨rfl, rfl⟩) e hk (fit_a (Or.inr ⟨_, rfl⟩)) (wp_weak (re_sb_at rfl (re_sb_at rfl (re_sb_at rfl (re_sb_nil _)))) K)
theorem B448_24 {SC : List Value} {d s : Nat} {h : re_H} {Q : Nat → Value → re_H → Prop} {a0 : Nat} {a1 : Nat} {a2 : Nat}
    {s' i : Nat} (hx : (i32 604) = i32 i) (hn : i * 8 ≤ 536870912) (hs : i + 2 * s' ≤ 11 + 2 * s) (hs' : s' ≤ s) (K : wp SC 448 d s' 30 [(0, .ref a0), (1, .ref a1), (2, .ref a2)] [.ref h.1, .ref a0] (re_hq h (102, List.replicate i (.int 0))) Q) : wp SC 448 d s 24 [(0, .ref a0), (1, .ref a1), (2, .ref a2)] [] h Q := by
  refine wp_run 1 (pc' := 25) (lv' := [(0, .ref a0), (1, .ref a1), (2, .ref a2)]) (st' := [.ref a0]) rfl ?_
  refine wp_si (x := (i32 604)) ⟨rfl, rfl⟩ (by decide) ?_
  exact wp_na ⟨rfl, rfl⟩ hx hn (Or.inr (Or.inr ⟨rfl, rfl, rfl⟩)) hs hs' (wp_weak (re_sb_at rfl (re_sb_at rfl (re_sb_at rfl (re_sb_nil _)))) K)
theorem B448_30 {SC : List Value} {d s : Nat} {h : re_H} {Q : Nat → Value → re_H → Prop} {a0 : Nat} {a1 : Nat} {a2 : Nat} {as0 : Nat} {as1 : Nat}
    {w : List Value} (e : re_hg h as1 = some (7, w)) (hk : 4 < w.length) (K : wp SC 448 d s 33 [(0, .ref a0), (1, .ref a1), (2, .ref a2)] [] (re_hw h as1 (7, w.set 4 (.ref as0))) Q) : wp SC 448 d s 30 [(0, .ref a0), (1, .ref a1), (2, .ref a2)] [.ref as0, .ref as1] h Q := by
  exact wp_pf ⟨rfl, rfl⟩ rfl (Or.inr ⟨rfl, rfl⟩) e hk (fit_a (Or.inr ⟨_, rfl⟩)) (wp_weak (re_sb_at rfl (re_sb_at rfl (re_sb_at rfl (re_sb_nil _)))) K)
theorem B448_33 {SC : List Value} {d s : Nat} {h : re_H} {Q : Nat → Value → re_H → Prop} {a0 : Nat} {a1 : Nat} {a2 : Nat}
    {s' i : Nat} (hx : (i32 301) = i32 i) (hn : i * 8 ≤ 536870912) (hs : i + 2 * s' ≤ 11 + 2 * s) (hs' : s' ≤ s) (K : wp SC 448 d s' 39 [(0, .ref a0), (1, .ref a1), (2, .ref a2)] [.ref h.1, .ref a0] (re_hq h (101, List.replicate i (.long 0))) Q) : wp SC 448 d s 33 [(0, .ref a0), (1, .ref a1), (2, .ref a2)] [] h Q := by
  refine wp_run 1 (pc' := 34) (lv' := [(0, .ref a0), (1, .ref a1), (2, .ref a2)]) (st' := [.ref a0]) rfl ?_
  refine wp_si (x := (i32 301)) ⟨rfl, rfl⟩ (by decide) ?_
  exact wp_na ⟨rfl, rfl⟩ hx hn (Or.inr (Or.inl ⟨rfl, rfl, rfl⟩)) hs hs' (wp_weak (re_sb_at rfl (re_sb_at rfl (re_sb_at rfl (re_sb_nil _)))) K)
theorem B448_39 {SC : List Value} {d s : Nat} {h : re_H} {Q : Nat → Value → re_H → Prop} {a0 : Nat} {a1 : Nat} {a2 : Nat} {as0 : Nat} {as1 : Nat}
    {w : List Value} (e : re_hg h as1 = some (7, w)) (hk : 6 < w.length) (K : wp SC 448 d s 42 [(0, .ref a0), (1, .ref a1), (2, .ref a2)] [] (re_hw h as1 (7, w.set 6 (.ref as0))) Q) : wp SC 448 d s 39 [(0, .ref a0), (1, .ref a1), (2, .ref a2)] [.ref as0, .ref as1] h Q := by
  exact wp_pf ⟨rfl, rfl⟩ rfl (Or.inr ⟨rfl, rfl⟩) e hk (fit_a (Or.inr ⟨_, rfl⟩)) (wp_weak (re_sb_at rfl (re_sb_at rfl (re_sb_at rfl (re_sb_nil _)))) K)
theorem B448_42 {SC : List Value} {d s : Nat} {h : re_H} {Q : Nat → Value → re_H → Prop} {a0 : Nat} {a1 : Nat} {a2 : Nat}
    {s' i : Nat} (hx : (i32 301) = i32 i) (hn : i * 8 ≤ 536870912) (hs : i + 2 * s' ≤ 11 + 2 * s) (hs' : s' ≤ s) (K : wp SC 448 d s' 49 [(0, .ref a0), (1, .ref a1), (2, .ref a2)] [.ref h.1, .ref a0] (re_hq h (106, List.replicate i .null)) Q) : wp SC 448 d s 42 [(0, .ref a0), (1, .ref a1), (2, .ref a2)] [] h Q := by
  refine wp_run 1 (pc' := 43) (lv' := [(0, .ref a0), (1, .ref a1), (2, .ref a2)]) (st' := [.ref a0]) rfl ?_
  refine wp_si (x := (i32 301)) ⟨rfl, rfl⟩ (by decide) ?_
  exact wp_ana ⟨rfl, rfl⟩ rfl hx hn hs hs' (wp_weak (re_sb_at rfl (re_sb_at rfl (re_sb_at rfl (re_sb_nil _)))) K)
theorem B448_49 {SC : List Value} {d s : Nat} {h : re_H} {Q : Nat → Value → re_H → Prop} {a0 : Nat} {a1 : Nat} {a2 : Nat} {as0 : Nat} {as1 : Nat}
    {w : List Value} (e : re_hg h as1 = some (7, w)) (hk : 7 < w.length) (K : wp SC 448 d s 52 [(0, .ref a0), (1, .ref a1), (2, .ref a2)] [] (re_hw h as1 (7, w.set 7 (.ref as0))) Q) : wp SC 448 d s 49 [(0, .ref a0), (1, .ref a1), (2, .ref a2)] [.ref as0, .ref as1] h Q := by
  exact wp_pf ⟨rfl, rfl⟩ rfl (Or.inr ⟨rfl, rfl⟩) e hk (fit_a (Or.inr ⟨_, rfl⟩)) (wp_weak (re_sb_at rfl (re_sb_at rfl (re_sb_at rfl (re_sb_nil _)))) K)
theorem B448_52 {SC : List Value} {d s : Nat} {h : re_H} {Q : Nat → Value → re_H → Prop} {a0 : Nat} {a1 : Nat} {a2 : Nat}
    {w : List Value} (e : re_hg h a0 = some (7, w)) (hk : 0 < w.length) (K : wp SC 448 d s 57 [(0, .ref a0), (2, .ref a2)] [] (re_hw h a0 (7, w.set 0 (.ref a1))) Q) : wp SC 448 d s 52 [(0, .ref a0), (1, .ref a1), (2, .ref a2)] [] h Q := by
  refine wp_run 2 (pc' := 54) (lv' := [(0, .ref a0), (1, .ref a1), (2, .ref a2)]) (st' := [.ref a1, .ref a0]) rfl ?_
  exact wp_pf ⟨rfl, rfl⟩ rfl (Or.inr ⟨rfl, rfl⟩) e hk (fit_o (Or.inr ⟨_, rfl⟩)) (wp_weak (re_sb_at rfl (re_sb_at rfl (re_sb_nil _))) K)
theorem B448_57 {SC : List Value} {d s : Nat} {h : re_H} {Q : Nat → Value → re_H → Prop} {a0 : Nat} {a2 : Nat}
    {w : List Value} (e : re_hg h a0 = some (7, w)) (hk : 1 < w.length) (K : wp SC 448 d s 62 [] [] (re_hw h a0 (7, w.set 1 (.ref a2))) Q) : wp SC 448 d s 57 [(0, .ref a0), (2, .ref a2)] [] h Q := by
  refine wp_run 2 (pc' := 59) (lv' := [(0, .ref a0), (2, .ref a2)]) (st' := [.ref a2, .ref a0]) rfl ?_
  exact wp_pf ⟨rfl, rfl⟩ rfl (Or.inr ⟨rfl, rfl⟩) e hk (fit_o (Or.inr ⟨_, rfl⟩)) (wp_weak (re_sb_nil _) K)
theorem B448_62 {SC : List Value} {d s : Nat} {h : re_H} {Q : Nat → Value → re_H → Prop} 
    (K : Q 0 .null h) : wp SC 448 d s 62 [] [] h Q := by
  exact wp_retv ⟨rfl, rfl⟩ rfl K
theorem B449_0 {SC : List Value} {d s : Nat} {h : re_H} {Q : Nat → Value → re_H → Prop} {a0 : Nat} {x1 : Int32}
    {ae1 : Nat} (e2 : nb_fd h a0 7 0 (.ref ae1)) {c : Nat} {w : List Value} (eg : re_hg h ae1 = some (c, w)) (ec : c = 6) (K : wp SC 385 d 0 0 [(0, .ref ae1)] [] h (wp_ret SC 449 (d + 1) s 7 [(0, .ref a0), (1, .int x1)] [] Q)) : wp SC 449 (d + 1) s 0 [(0, .ref a0), (1, .int x1)] [] h Q := by
  refine wp_run 1 (pc' := 1) (lv' := [(0, .ref a0), (1, .int x1)]) (st' := [.ref a0]) rfl ?_
  obtain ⟨w2, e2a, e2b⟩ := e2
  refine wp_gf ⟨rfl, rfl⟩ rfl e2a e2b ?_
  have eA : lv_args 0 (.ref ae1 :: [].reverse) = [(0, .ref ae1)] := by simp [lv_args, vc_i, vc_l, vc_r, vc_n, vc_a]
  refine wp_callV (ar := []) (rest := []) (s1 := 0) (s2 := s) (d' := d) ⟨rfl, rfl⟩ rfl (Or.inl rfl)  (by simp [re_cat, vc_i, vc_l, vc_r, vc_n, vc_a]) (by rw [show re_cat (.ref ae1 :: [].reverse) = 1 from by simp [re_cat, vc_i, vc_l, vc_r, vc_n, vc_a]]; decide) (by decide) rfl eg ec rfl (Nat.le_of_eq (Nat.zero_add s)) ?_
  rw [eA]
  exact wp_mono K (fun k v h' z => wp_ret_weak (re_sb_at rfl (re_sb_at rfl (re_sb_nil _))) z)
theorem B449_7 {SC : List Value} {d s : Nat} {h : re_H} {Q : Nat → Value → re_H → Prop} {a0 : Nat} {x1 : Int32}
    {w : List Value} (e : re_hg h a0 = some (7, w)) (hk : 9 < w.length) (K : wp SC 449 d s 12 [(0, .ref a0)] [] (re_hw h a0 (7, w.set 9 (.int x1))) Q) : wp SC 449 d s 7 [(0, .ref a0), (1, .int x1)] [] h Q := by
  refine wp_run 2 (pc' := 9) (lv' := [(0, .ref a0), (1, .int x1)]) (st' := [.int x1, .ref a0]) rfl ?_
  exact wp_pf ⟨rfl, rfl⟩ rfl (Or.inl rfl) e hk (fit_i _) (wp_weak (re_sb_at rfl (re_sb_nil _)) K)
theorem B449_12 {SC : List Value} {d s : Nat} {h : re_H} {Q : Nat → Value → re_H → Prop} {a0 : Nat}
    {w : List Value} (e : re_hg h a0 = some (7, w)) (hk : 10 < w.length) (K : wp SC 449 d s 17 [(0, .ref a0)] [] (re_hw h a0 (7, w.set 10 (.int (i32 0)))) Q) : wp SC 449 d s 12 [(0, .ref a0)] [] h Q := by
  refine wp_run 2 (pc' := 14) (lv' := [(0, .ref a0)]) (st' := [.int (i32 0), .ref a0]) rfl ?_
  exact wp_pf ⟨rfl, rfl⟩ rfl (Or.inl rfl) e hk (fit_i _) (wp_weak (re_sb_at rfl (re_sb_nil _)) K)
theorem B449_17 {SC : List Value} {d s : Nat} {h : re_H} {Q : Nat → Value → re_H → Prop} {a0 : Nat}
    {w : List Value} (e : re_hg h a0 = some (7, w)) (hk : 11 < w.length) (K : wp SC 449 d s 22 [(0, .ref a0)] [] (re_hw h a0 (7, w.set 11 (.int (i32 0)))) Q) : wp SC 449 d s 17 [(0, .ref a0)] [] h Q := by
  refine wp_run 2 (pc' := 19) (lv' := [(0, .ref a0)]) (st' := [.int (i32 0), .ref a0]) rfl ?_
  exact wp_pf ⟨rfl, rfl⟩ rfl (Or.inl rfl) e hk (fit_i _) (wp_weak (re_sb_at rfl (re_sb_nil _)) K)
theorem B449_22 {SC : List Value} {d s : Nat} {h : re_H} {Q : Nat → Value → re_H → Prop} {a0 : Nat}
    {w : List Value} (e : re_hg h a0 = some (7, w)) (hk : 12 < w.length) (K : wp SC 449 d s 27 [] [] (re_hw h a0 (7, w.set 12 (.null))) Q) : wp SC 449 d s 22 [(0, .ref a0)] [] h Q := by
  refine wp_run 2 (pc' := 24) (lv' := [(0, .ref a0)]) (st' := [.null, .ref a0]) rfl ?_
  exact wp_pf ⟨rfl, rfl⟩ rfl (Or.inl rfl) e hk (fit_o (Or.inl rfl)) (wp_weak (re_sb_nil _) K)
theorem B449_27 {SC : List Value} {d s : Nat} {h : re_H} {Q : Nat → Value → re_H → Prop} 
    (K : Q 0 .null h) : wp SC 449 d s 27 [] [] h Q := by
  exact wp_retv ⟨rfl, rfl⟩ rfl K
theorem B450_0 {SC : List Value} {d s : Nat} {h : re_H} {Q : Nat → Value → re_H → Prop} {a0 : Nat} {x1 : Int32} {l2 : Int64} {v4 : Value} (r4 : re_R v4)
    {ae1 : Nat} (e2 : nb_fd h a0 7 0 (.ref ae1)) {ve3 : Value} (re3 : re_R ve3) (e4 : nb_fd h a0 7 12 (ve3)) {c : Nat} {w : List Value} (eg : re_hg h ae1 = some (c, w)) (ec : c = 6) (K : wp SC 388 d 0 0 [(0, .ref ae1), (1, .int x1), (2, .long l2), (4, v4), (5, ve3)] [] h (wp_ret SC 450 (d + 1) s 16 [] [.ref a0] Q)) : wp SC 450 (d + 1) s 0 [(0, .ref a0), (1, .int x1), (2, .long l2), (4, v4)] [] h Q := by
  refine wp_run 2 (pc' := 2) (lv' := [(0, .ref a0), (1, .int x1), (2, .long l2), (4, v4)]) (st' := [.ref a0, .ref a0]) rfl ?_
  obtain ⟨w2, e2a, e2b⟩ := e2
  refine wp_gf ⟨rfl, rfl⟩ rfl e2a e2b ?_
  refine wp_run 2 (pc' := 7) (lv' := [(0, .ref a0), (1, .int x1), (2, .long l2), (4, v4)]) (st' := [.long l2, .int x1, .ref ae1, .ref a0]) rfl ?_
  refine wp_alR (ins := .aload 4) (k := 4) (pc' := 9) ⟨rfl, rfl⟩ (Or.inl ⟨_, rfl, rfl, rfl⟩) rfl r4 ?_
  refine wp_run 1 (pc' := 10) (lv' := [(0, .ref a0), (1, .int x1), (2, .long l2), (4, v4)]) (st' := [.ref a0, v4, .long l2, .int x1, .ref ae1, .ref a0]) rfl ?_
  obtain ⟨w4, e4a, e4b⟩ := e4
  refine wp_gf ⟨rfl, rfl⟩ rfl e4a e4b ?_
  have eA : lv_args 0 (.ref ae1 :: [ve3, v4, .long l2, .int x1].reverse) = [(0, .ref ae1), (1, .int x1), (2, .long l2), (4, v4), (5, ve3)] := by simp [lv_args, vc_i, vc_l, vc_r, vc_n, vc_a, re_R_cat re3, re_R_cat r4]
  refine wp_callV (ar := [ve3, v4, .long l2, .int x1]) (rest := [.ref a0]) (s1 := 0) (s2 := s) (d' := d) ⟨rfl, rfl⟩ rfl (Or.inl rfl)  (by simp [re_cat, vc_i, vc_l, vc_r, vc_n, vc_a]) (by rw [show re_cat (.ref ae1 :: [ve3, v4, .long l2, .int x1].reverse) = 6 from by simp [re_cat, vc_i, vc_l, vc_r, vc_n, vc_a, re_R_cat re3, re_R_cat r4]]; decide) (by decide) rfl eg ec rfl (Nat.le_of_eq (Nat.zero_add s)) ?_
  rw [eA]
  exact wp_mono K (fun k v h' z => wp_ret_weak (re_sb_nil _) z)
theorem B450_16 {SC : List Value} {d s : Nat} {h : re_H} {Q : Nat → Value → re_H → Prop} {vs0 : Value} (rs0 : re_R vs0) {as1 : Nat}
    {w : List Value} (e : re_hg h as1 = some (7, w)) (hk : 12 < w.length) (K : wp SC 450 d s 19 [] [] (re_hw h as1 (7, w.set 12 (vs0))) Q) : wp SC 450 d s 16 [] [vs0, .ref as1] h Q := by
  exact wp_pf ⟨rfl, rfl⟩ rfl (Or.inl rfl) e hk (fit_o rs0) (wp_weak (re_sb_nil _) K)
theorem B450_19 {SC : List Value} {d s : Nat} {h : re_H} {Q : Nat → Value → re_H → Prop} 
    (K : Q 0 .null h) : wp SC 450 d s 19 [] [] h Q := by
  exact wp_retv ⟨rfl, rfl⟩ rfl K
set_option maxRecDepth 20000 in
theorem B451_0 {SC : List Value} {d s : Nat} {h : re_H} {Q : Nat → Value → re_H → Prop} {a0 : Nat} {v1 : Value} (r1 : re_R v1)
    {w : List Value} (e : re_hg h a0 = some (7, w)) (hk : 5 < w.length) (K : wp SC 451 d s 5 [(0, .ref a0), (1, v1)] [] (re_hw h a0 (7, w.set 5 (.int (i32 0)))) Q) : wp SC 451 d s 0 [(0, .ref a0), (1, v1)] [] h Q := by
  refine wp_run 2 (pc' := 2) (lv' := [(0, .ref a0), (1, v1)]) (st' := [.int (i32 0), .ref a0]) rfl ?_
  exact wp_pf ⟨rfl, rfl⟩ rfl (Or.inl rfl) e hk (fit_i _) (wp_weak (re_sb_at rfl (re_sb_at rfl (re_sb_nil _))) K)
set_option maxRecDepth 20000 in
theorem B451_5 {SC : List Value} {d s : Nat} {h : re_H} {Q : Nat → Value → re_H → Prop} {a0 : Nat} {v1 : Value} (r1 : re_R v1)
    {w : List Value} (e : re_hg h a0 = some (7, w)) (hk : 8 < w.length) (K : wp SC 451 d s 10 [(0, .ref a0), (1, v1)] [] (re_hw h a0 (7, w.set 8 (.int (i32 0)))) Q) : wp SC 451 d s 5 [(0, .ref a0), (1, v1)] [] h Q := by
  refine wp_run 2 (pc' := 7) (lv' := [(0, .ref a0), (1, v1)]) (st' := [.int (i32 0), .ref a0]) rfl ?_
  exact wp_pf ⟨rfl, rfl⟩ rfl (Or.inl rfl) e hk (fit_i _) (wp_weak (re_sb_at rfl (re_sb_at rfl (re_sb_nil _))) K)
set_option maxRecDepth 20000 in
theorem B451_10 {SC : List Value} {d s : Nat} {h : re_H} {Q : Nat → Value → re_H → Prop} {a0 : Nat} {v1 : Value} (r1 : re_R v1)
    {ve1 : Value} (re1 : re_R ve1) (e2 : nb_fd h a0 7 12 (ve1)) {c : Nat} {w : List Value} (eg : re_hg h a0 = some (c, w)) (ec : c = 7) (K : wp SC 452 d 0 0 [(0, .ref a0), (1, v1), (2, ve1), (3, .int (i32 0))] [] h (wp_ret SC 451 (d + 1) s 20 [(0, .ref a0)] [] Q)) : wp SC 451 (d + 1) s 10 [(0, .ref a0), (1, v1)] [] h Q := by
  refine wp_run 1 (pc' := 11) (lv' := [(0, .ref a0), (1, v1)]) (st' := [.ref a0]) rfl ?_
  refine wp_alR (ins := .aload_n 1) (k := 1) (pc' := 12) ⟨rfl, rfl⟩ (Or.inr ⟨_, rfl, rfl, rfl⟩) rfl r1 ?_
  refine wp_run 1 (pc' := 13) (lv' := [(0, .ref a0), (1, v1)]) (st' := [.ref a0, v1, .ref a0]) rfl ?_
  obtain ⟨w2, e2a, e2b⟩ := e2
  refine wp_gf ⟨rfl, rfl⟩ rfl e2a e2b ?_
  refine wp_run 1 (pc' := 17) (lv' := [(0, .ref a0), (1, v1)]) (st' := [.int (i32 0), ve1, v1, .ref a0]) rfl ?_
  have eA : lv_args 0 (.ref a0 :: [.int (i32 0), ve1, v1].reverse) = [(0, .ref a0), (1, v1), (2, ve1), (3, .int (i32 0))] := by simp [lv_args, vc_i, vc_l, vc_r, vc_n, vc_a, re_R_cat re1, re_R_cat r1]
  refine wp_callV (ar := [.int (i32 0), ve1, v1]) (rest := []) (s1 := 0) (s2 := s) (d' := d) ⟨rfl, rfl⟩ rfl (Or.inl rfl)  (by simp [re_cat, vc_i, vc_l, vc_r, vc_n, vc_a]) (by rw [show re_cat (.ref a0 :: [.int (i32 0), ve1, v1].reverse) = 4 from by simp [re_cat, vc_i, vc_l, vc_r, vc_n, vc_a, re_R_cat re1, re_R_cat r1]]; decide) (by decide) rfl eg ec rfl (Nat.le_of_eq (Nat.zero_add s)) ?_
  rw [eA]
  exact wp_mono K (fun k v h' z => wp_ret_weak (re_sb_at rfl (re_sb_nil _)) z)
set_option maxRecDepth 20000 in
theorem B451_20 {SC : List Value} {d s : Nat} {h : re_H} {Q : Nat → Value → re_H → Prop} {a0 : Nat}
    (K : wp SC 451 d s 22 [(0, .ref a0), (2, .int (i32 0))] [] h Q) : wp SC 451 d s 20 [(0, .ref a0)] [] h Q := by
  refine wp_run 2 (pc' := 22) (lv' := [(2, .int (i32 0)), (0, .ref a0)]) (st' := []) rfl ?_
  exact wp_weak (re_sb_at rfl (re_sb_at rfl (re_sb_nil _))) K
set_option maxRecDepth 20000 in
theorem B451_22 {SC : List Value} {d s : Nat} {h : re_H} {Q : Nat → Value → re_H → Prop} {a0 : Nat} {x2 : Int32}
    (K1 : ¬ x2 < (1000000) → wp SC 451 d s 116 [(0, .ref a0)] [] h Q) (K2 : x2 < (1000000) → wp SC 451 d s 28 [(0, .ref a0), (2, .int x2)] [] h Q) : wp SC 451 d s 22 [(0, .ref a0), (2, .int x2)] [] h Q := by
  refine wp_run 1 (pc' := 23) (lv' := [(0, .ref a0), (2, .int x2)]) (st' := [.int x2]) rfl ?_
  refine wp_cst (pc' := 25) (v := .int (1000000)) ⟨rfl, rfl⟩ rfl rfl rfl rfl rfl ?_
  exact wp_cmp ⟨rfl, rfl⟩ rfl (fun hc => wp_weak (re_sb_at rfl (re_sb_nil _)) (K1 (ic1_ge hc))) (fun hc => wp_weak (re_sb_at rfl (re_sb_at rfl (re_sb_nil _))) (K2 (ic0_ge hc)))
set_option maxRecDepth 20000 in
theorem B451_28 {SC : List Value} {d s : Nat} {h : re_H} {Q : Nat → Value → re_H → Prop} {a0 : Nat} {x2 : Int32}
    {xe1 : Int32} (e2 : nb_fd h a0 7 5 (.int xe1)) (K1 : ¬ 0 < xe1 → wp SC 451 d s 116 [(0, .ref a0)] [] h Q) (K2 : 0 < xe1 → wp SC 451 d s 35 [(0, .ref a0), (2, .int x2)] [] h Q) : wp SC 451 d s 28 [(0, .ref a0), (2, .int x2)] [] h Q := by
  refine wp_run 1 (pc' := 29) (lv' := [(0, .ref a0), (2, .int x2)]) (st' := [.ref a0]) rfl ?_
  obtain ⟨w2, e2a, e2b⟩ := e2
  refine wp_gf ⟨rfl, rfl⟩ rfl e2a e2b ?_
  exact wp_if ⟨rfl, rfl⟩ rfl (fun hc => wp_weak (re_sb_at rfl (re_sb_nil _)) (K1 (ic1_le hc))) (fun hc => wp_weak (re_sb_at rfl (re_sb_at rfl (re_sb_nil _))) (K2 (ic0_le hc)))
set_option maxRecDepth 20000 in
theorem B451_35 {SC : List Value} {d s : Nat} {h : re_H} {Q : Nat → Value → re_H → Prop} {a0 : Nat} {x2 : Int32}
    {xe1 : Int32} (e2 : nb_fd h a0 7 5 (.int xe1)) {w : List Value} (e : re_hg h a0 = some (7, w)) (hk : 5 < w.length) (K : wp SC 451 d s 45 [(0, .ref a0), (2, .int x2)] [] (re_hw h a0 (7, w.set 5 (.int (xe1 - (i32 1))))) Q) : wp SC 451 d s 35 [(0, .ref a0), (2, .int x2)] [] h Q := by
  refine wp_run 2 (pc' := 37) (lv' := [(0, .ref a0), (2, .int x2)]) (st' := [.ref a0, .ref a0]) rfl ?_
  obtain ⟨w2, e2a, e2b⟩ := e2
  refine wp_gf ⟨rfl, rfl⟩ rfl e2a e2b ?_
  refine wp_run 2 (pc' := 42) (lv' := [(0, .ref a0), (2, .int x2)]) (st' := [.int (xe1 - (i32 1)), .ref a0]) rfl ?_
  exact wp_pf ⟨rfl, rfl⟩ rfl (Or.inl rfl) e hk (fit_i _) (wp_weak (re_sb_at rfl (re_sb_at rfl (re_sb_nil _))) K)
set_option maxRecDepth 20000 in
theorem B451_45 {SC : List Value} {d s : Nat} {h : re_H} {Q : Nat → Value → re_H → Prop} {a0 : Nat} {x2 : Int32}
    {ae1 : Nat} (e2 : nb_fd h a0 7 2 (.ref ae1)) {xe3 : Int32} (e4 : nb_fd h a0 7 5 (.int xe3)) {ve5 : Value} (re5 : re_R ve5) (e6 : nb_ar h ae1 103 xe3 (ve5)) (K1 : ve5 = .null → wp SC 451 d s 108 [] [] h Q) (K2 : ∀ b7, ve5 = .ref b7 → wp SC 451 d s 59 [(0, .ref a0), (2, .int x2), (3, .ref b7)] [] h Q) : wp SC 451 d s 45 [(0, .ref a0), (2, .int x2)] [] h Q := by
  refine wp_run 1 (pc' := 46) (lv' := [(0, .ref a0), (2, .int x2)]) (st' := [.ref a0]) rfl ?_
  obtain ⟨w2, e2a, e2b⟩ := e2
  refine wp_gf ⟨rfl, rfl⟩ rfl e2a e2b ?_
  refine wp_run 1 (pc' := 50) (lv' := [(0, .ref a0), (2, .int x2)]) (st' := [.ref a0, .ref ae1]) rfl ?_
  obtain ⟨w4, e4a, e4b⟩ := e4
  refine wp_gf ⟨rfl, rfl⟩ rfl e4a e4b ?_
  obtain ⟨w6, i6, e6a, e6x, e6i, e6v⟩ := e6
  refine wp_aal ⟨rfl, rfl⟩ e6a ⟨by decide, by decide⟩ e6x e6i e6v ?_
  refine wp_asR (ins := .astore_n 3) (k := 3) (pc' := 55) (lv' := [(3, ve5), (0, .ref a0), (2, .int x2)]) ⟨rfl, rfl⟩ (Or.inr ⟨_, rfl, rfl, rfl⟩) (by decide) re5 rfl ?_
  refine wp_alR (ins := .aload_n 3) (k := 3) (pc' := 56) ⟨rfl, rfl⟩ (Or.inr ⟨_, rfl, rfl, rfl⟩) rfl re5 ?_
  exact wp_ifn ⟨rfl, rfl⟩ rfl re5 (fun hc => by subst hc; exact wp_weak (re_sb_nil _) (K1 rfl)) (fun bb hc => by subst hc; exact wp_weak (re_sb_at rfl (re_sb_at rfl (re_sb_at rfl (re_sb_nil _)))) (K2 bb rfl))
set_option maxRecDepth 20000 in
theorem B451_59 {SC : List Value} {d s : Nat} {h : re_H} {Q : Nat → Value → re_H → Prop} {a0 : Nat} {x2 : Int32} {a3 : Nat}
    {ae1 : Nat} (e2 : nb_fd h a0 7 4 (.ref ae1)) {xe3 : Int32} (e4 : nb_fd h a0 7 5 (.int xe3)) {xe5 : Int32} (e6 : nb_ar h ae1 102 xe3 (.int xe5)) (K1 : xe5 = 0 → wp SC 451 d s 91 [(0, .ref a0), (2, .int x2), (3, .ref a3)] [] h Q) (K2 : ¬ xe5 = 0 → wp SC 451 d s 71 [(0, .ref a0), (2, .int x2), (3, .ref a3)] [] h Q) : wp SC 451 d s 59 [(0, .ref a0), (2, .int x2), (3, .ref a3)] [] h Q := by
  refine wp_run 1 (pc' := 60) (lv' := [(0, .ref a0), (2, .int x2), (3, .ref a3)]) (st' := [.ref a0]) rfl ?_
  obtain ⟨w2, e2a, e2b⟩ := e2
  refine wp_gf ⟨rfl, rfl⟩ rfl e2a e2b ?_
  refine wp_run 1 (pc' := 64) (lv' := [(0, .ref a0), (2, .int x2), (3, .ref a3)]) (st' := [.ref a0, .ref ae1]) rfl ?_
  obtain ⟨w4, e4a, e4b⟩ := e4
  refine wp_gf ⟨rfl, rfl⟩ rfl e4a e4b ?_
  obtain ⟨w6, i6, e6a, e6x, e6i, e6v⟩ := e6
  refine wp_bal ⟨rfl, rfl⟩ e6a rfl e6x e6i e6v ?_
  exact wp_if ⟨rfl, rfl⟩ rfl (fun hc => wp_weak (re_sb_at rfl (re_sb_at rfl (re_sb_at rfl (re_sb_nil _)))) (K1 (ic1_eq hc))) (fun hc => wp_weak (re_sb_at rfl (re_sb_at rfl (re_sb_at rfl (re_sb_nil _)))) (K2 (ic0_eq hc)))
set_option maxRecDepth 20000 in
theorem B451_71 {SC : List Value} {d s : Nat} {h : re_H} {Q : Nat → Value → re_H → Prop} {a0 : Nat} {x2 : Int32} {a3 : Nat}
    {ae1 : Nat} (e2 : nb_fd h a0 7 3 (.ref ae1)) {xe3 : Int32} (e4 : nb_fd h a0 7 5 (.int xe3)) {ve5 : Value} (re5 : re_R ve5) (e6 : nb_ar h ae1 106 xe3 (ve5)) {c : Nat} {w : List Value} (eg : re_hg h a0 = some (c, w)) (ec : c = 7) (K : wp SC 453 d 0 0 [(0, .ref a0), (1, .ref a3), (2, ve5)] [] h (wp_ret SC 451 (d + 1) s 85 [(0, .ref a0), (2, .int x2)] [] Q)) : wp SC 451 (d + 1) s 71 [(0, .ref a0), (2, .int x2), (3, .ref a3)] [] h Q := by
  refine wp_run 3 (pc' := 74) (lv' := [(0, .ref a0), (2, .int x2), (3, .ref a3)]) (st' := [.ref a0, .ref a3, .ref a0]) rfl ?_
  obtain ⟨w2, e2a, e2b⟩ := e2
  refine wp_gf ⟨rfl, rfl⟩ rfl e2a e2b ?_
  refine wp_run 1 (pc' := 78) (lv' := [(0, .ref a0), (2, .int x2), (3, .ref a3)]) (st' := [.ref a0, .ref ae1, .ref a3, .ref a0]) rfl ?_
  obtain ⟨w4, e4a, e4b⟩ := e4
  refine wp_gf ⟨rfl, rfl⟩ rfl e4a e4b ?_
  obtain ⟨w6, i6, e6a, e6x, e6i, e6v⟩ := e6
  refine wp_aal ⟨rfl, rfl⟩ e6a ⟨by decide, by decide⟩ e6x e6i e6v ?_
  have eA : lv_args 0 (.ref a0 :: [ve5, .ref a3].reverse) = [(0, .ref a0), (1, .ref a3), (2, ve5)] := by simp [lv_args, vc_i, vc_l, vc_r, vc_n, vc_a, re_R_cat re5]
  refine wp_callV (ar := [ve5, .ref a3]) (rest := []) (s1 := 0) (s2 := s) (d' := d) ⟨rfl, rfl⟩ rfl (Or.inl rfl)  (by simp [re_cat, vc_i, vc_l, vc_r, vc_n, vc_a]) (by rw [show re_cat (.ref a0 :: [ve5, .ref a3].reverse) = 3 from by simp [re_cat, vc_i, vc_l, vc_r, vc_n, vc_a, re_R_cat re5]]; decide) (by decide) rfl eg ec rfl (Nat.le_of_eq (Nat.zero_add s)) ?_
  rw [eA]
  exact wp_mono K (fun k v h' z => wp_ret_weak (re_sb_at rfl (re_sb_at rfl (re_sb_nil _))) z)
set_option maxRecDepth 20000 in
theorem B451_85 {SC : List Value} {d s : Nat} {h : re_H} {Q : Nat → Value → re_H → Prop} {a0 : Nat} {x2 : Int32} {xs0 : Int32}
    (K1 : xs0 = 0 → wp SC 451 d s 108 [] [] h Q) (K2 : ¬ xs0 = 0 → wp SC 451 d s 88 [(0, .ref a0), (2, .int x2)] [] h Q) : wp SC 451 d s 85 [(0, .ref a0), (2, .int x2)] [.int xs0] h Q := by
  exact wp_if ⟨rfl, rfl⟩ rfl (fun hc => wp_weak (re_sb_nil _) (K1 (ic1_eq hc))) (fun hc => wp_weak (re_sb_at rfl (re_sb_at rfl (re_sb_nil _))) (K2 (ic0_eq hc)))
set_option maxRecDepth 20000 in
theorem B451_88 {SC : List Value} {d s : Nat} {h : re_H} {Q : Nat → Value → re_H → Prop} {a0 : Nat} {x2 : Int32}
    (K : wp SC 451 d s 110 [(0, .ref a0), (2, .int x2)] [] h Q) : wp SC 451 d s 88 [(0, .ref a0), (2, .int x2)] [] h Q := by
  refine wp_run 1 (pc' := 110) (lv' := [(0, .ref a0), (2, .int x2)]) (st' := []) rfl ?_
  exact wp_weak (re_sb_at rfl (re_sb_at rfl (re_sb_nil _))) K
set_option maxRecDepth 20000 in
theorem B451_91 {SC : List Value} {d s : Nat} {h : re_H} {Q : Nat → Value → re_H → Prop} {a0 : Nat} {x2 : Int32} {a3 : Nat}
    {ae1 : Nat} (e2 : nb_fd h a0 7 3 (.ref ae1)) {xe3 : Int32} (e4 : nb_fd h a0 7 5 (.int xe3)) {ve5 : Value} (re5 : re_R ve5) (e6 : nb_ar h ae1 106 xe3 (ve5)) {c : Nat} {w : List Value} (eg : re_hg h a0 = some (c, w)) (ec : c = 7) (K : wp SC 460 d 0 0 [(0, .ref a0), (1, .ref a3), (2, ve5)] [] h (wp_ret SC 451 (d + 1) s 105 [(0, .ref a0), (2, .int x2)] [] Q)) : wp SC 451 (d + 1) s 91 [(0, .ref a0), (2, .int x2), (3, .ref a3)] [] h Q := by
  refine wp_run 3 (pc' := 94) (lv' := [(0, .ref a0), (2, .int x2), (3, .ref a3)]) (st' := [.ref a0, .ref a3, .ref a0]) rfl ?_
  obtain ⟨w2, e2a, e2b⟩ := e2
  refine wp_gf ⟨rfl, rfl⟩ rfl e2a e2b ?_
  refine wp_run 1 (pc' := 98) (lv' := [(0, .ref a0), (2, .int x2), (3, .ref a3)]) (st' := [.ref a0, .ref ae1, .ref a3, .ref a0]) rfl ?_
  obtain ⟨w4, e4a, e4b⟩ := e4
  refine wp_gf ⟨rfl, rfl⟩ rfl e4a e4b ?_
  obtain ⟨w6, i6, e6a, e6x, e6i, e6v⟩ := e6
  refine wp_aal ⟨rfl, rfl⟩ e6a ⟨by decide, by decide⟩ e6x e6i e6v ?_
  have eA : lv_args 0 (.ref a0 :: [ve5, .ref a3].reverse) = [(0, .ref a0), (1, .ref a3), (2, ve5)] := by simp [lv_args, vc_i, vc_l, vc_r, vc_n, vc_a, re_R_cat re5]
  refine wp_callV (ar := [ve5, .ref a3]) (rest := []) (s1 := 0) (s2 := s) (d' := d) ⟨rfl, rfl⟩ rfl (Or.inl rfl)  (by simp [re_cat, vc_i, vc_l, vc_r, vc_n, vc_a]) (by rw [show re_cat (.ref a0 :: [ve5, .ref a3].reverse) = 3 from by simp [re_cat, vc_i, vc_l, vc_r, vc_n, vc_a, re_R_cat re5]]; decide) (by decide) rfl eg ec rfl (Nat.le_of_eq (Nat.zero_add s)) ?_
  rw [eA]
  exact wp_mono K (fun k v h' z => wp_ret_weak (re_sb_at rfl (re_sb_at rfl (re_sb_nil _))) z)
set_option maxRecDepth 20000 in
theorem B451_105 {SC : List Value} {d s : Nat} {h : re_H} {Q : Nat → Value → re_H → Prop} {a0 : Nat} {x2 : Int32} {xs0 : Int32}
    (K1 : ¬ xs0 = 0 → wp SC 451 d s 110 [(0, .ref a0), (2, .int x2)] [] h Q) (K2 : xs0 = 0 → wp SC 451 d s 108 [] [] h Q) : wp SC 451 d s 105 [(0, .ref a0), (2, .int x2)] [.int xs0] h Q := by
  exact wp_if ⟨rfl, rfl⟩ rfl (fun hc => wp_weak (re_sb_at rfl (re_sb_at rfl (re_sb_nil _))) (K1 (ic1_ne hc))) (fun hc => wp_weak (re_sb_nil _) (K2 (ic0_ne hc)))
set_option maxRecDepth 20000 in
theorem B451_108 {SC : List Value} {d s : Nat} {h : re_H} {Q : Nat → Value → re_H → Prop} 
    (K : Q 1 (.int (i32 0)) h) : wp SC 451 d s 108 [] [] h Q := by
  refine wp_run 1 (pc' := 109) (lv' := []) (st' := [.int (i32 0)]) rfl ?_
  exact wp_retz ⟨rfl, rfl⟩ rfl (Or.inl rfl) K
set_option maxRecDepth 20000 in
theorem B451_110 {SC : List Value} {d s : Nat} {h : re_H} {Q : Nat → Value → re_H → Prop} {a0 : Nat} {x2 : Int32}
    (K : wp SC 451 d s 22 [(0, .ref a0), (2, .int (x2 + (i32 1)))] [] h Q) : wp SC 451 d s 110 [(0, .ref a0), (2, .int x2)] [] h Q := by
  refine wp_run 2 (pc' := 22) (lv' := [(2, .int (x2 + (i32 1))), (0, .ref a0)]) (st' := []) rfl ?_
  exact wp_weak (re_sb_at rfl (re_sb_at rfl (re_sb_nil _))) K
set_option maxRecDepth 20000 in
theorem B451_116 {SC : List Value} {d s : Nat} {h : re_H} {Q : Nat → Value → re_H → Prop} {a0 : Nat}
    {xe1 : Int32} (e2 : nb_fd h a0 7 5 (.int xe1)) (K1 : ¬ xe1 = 0 → wp SC 451 d s 135 [] [] h Q) (K2 : xe1 = 0 → wp SC 451 d s 123 [(0, .ref a0)] [] h Q) : wp SC 451 d s 116 [(0, .ref a0)] [] h Q := by
  refine wp_run 1 (pc' := 117) (lv' := [(0, .ref a0)]) (st' := [.ref a0]) rfl ?_
  obtain ⟨w2, e2a, e2b⟩ := e2
  refine wp_gf ⟨rfl, rfl⟩ rfl e2a e2b ?_
  exact wp_if ⟨rfl, rfl⟩ rfl (fun hc => wp_weak (re_sb_nil _) (K1 (ic1_ne hc))) (fun hc => wp_weak (re_sb_at rfl (re_sb_nil _)) (K2 (ic0_ne hc)))
set_option maxRecDepth 20000 in
theorem B451_123 {SC : List Value} {d s : Nat} {h : re_H} {Q : Nat → Value → re_H → Prop} {a0 : Nat}
    {xe1 : Int32} (e2 : nb_fd h a0 7 8 (.int xe1)) (K1 : ¬ xe1 = (i32 1) → wp SC 451 d s 135 [] [] h Q) (K2 : xe1 = (i32 1) → wp SC 451 d s 131 [] [] h Q) : wp SC 451 d s 123 [(0, .ref a0)] [] h Q := by
  refine wp_run 1 (pc' := 124) (lv' := [(0, .ref a0)]) (st' := [.ref a0]) rfl ?_
  obtain ⟨w2, e2a, e2b⟩ := e2
  refine wp_gf ⟨rfl, rfl⟩ rfl e2a e2b ?_
  refine wp_run 1 (pc' := 128) (lv' := [(0, .ref a0)]) (st' := [.int (i32 1), .int xe1]) rfl ?_
  exact wp_cmp ⟨rfl, rfl⟩ rfl (fun hc => wp_weak (re_sb_nil _) (K1 (ic1_ne hc))) (fun hc => wp_weak (re_sb_nil _) (K2 (ic0_ne hc)))
set_option maxRecDepth 20000 in
theorem B451_131 {SC : List Value} {d s : Nat} {h : re_H} {Q : Nat → Value → re_H → Prop} 
    (K : wp SC 451 d s 136 [] [.int (i32 1)] h Q) : wp SC 451 d s 131 [] [] h Q := by
  refine wp_run 2 (pc' := 136) (lv' := []) (st' := [.int (i32 1)]) rfl ?_
  exact wp_weak (re_sb_nil _) K
set_option maxRecDepth 20000 in
theorem B451_135 {SC : List Value} {d s : Nat} {h : re_H} {Q : Nat → Value → re_H → Prop} 
    (K : wp SC 451 d s 136 [] [.int (i32 0)] h Q) : wp SC 451 d s 135 [] [] h Q := by
  refine wp_run 1 (pc' := 136) (lv' := []) (st' := [.int (i32 0)]) rfl ?_
  exact wp_weak (re_sb_nil _) K
set_option maxRecDepth 20000 in
theorem B451_136 {SC : List Value} {d s : Nat} {h : re_H} {Q : Nat → Value → re_H → Prop} {xs0 : Int32}
    (hz : xs0 = 0 ∨ xs0 = 1) (K : Q 1 (.int xs0) h) : wp SC 451 d s 136 [] [.int xs0] h Q := by
  exact wp_retz ⟨rfl, rfl⟩ rfl hz K
theorem B452_0 {SC : List Value} {d s : Nat} {h : re_H} {Q : Nat → Value → re_H → Prop} {a0 : Nat} {v1 : Value} (r1 : re_R v1) {v2 : Value} (r2 : re_R v2) {x3 : Int32}
    {xe1 : Int32} (e2 : nb_fd h a0 7 5 (.int xe1)) (K1 : ¬ xe1 < (i32 604) → wp SC 452 d s 50 [] [] h Q) (K2 : xe1 < (i32 604) → wp SC 452 d s 10 [(0, .ref a0), (1, v1), (2, v2), (3, .int x3)] [] h Q) : wp SC 452 d s 0 [(0, .ref a0), (1, v1), (2, v2), (3, .int x3)] [] h Q := by
  refine wp_run 1 (pc' := 1) (lv' := [(0, .ref a0), (1, v1), (2, v2), (3, .int x3)]) (st' := [.ref a0]) rfl ?_
  obtain ⟨w2, e2a, e2b⟩ := e2
  refine wp_gf ⟨rfl, rfl⟩ rfl e2a e2b ?_
  refine wp_si (x := (i32 604)) ⟨rfl, rfl⟩ (by decide) ?_
  exact wp_cmp ⟨rfl, rfl⟩ rfl (fun hc => wp_weak (re_sb_nil _) (K1 (ic1_ge hc))) (fun hc => wp_weak (re_sb_at rfl (re_sb_at rfl (re_sb_at rfl (re_sb_at rfl (re_sb_nil _))))) (K2 (ic0_ge hc)))
theorem B452_10 {SC : List Value} {d s : Nat} {h : re_H} {Q : Nat → Value → re_H → Prop} {a0 : Nat} {v1 : Value} (r1 : re_R v1) {v2 : Value} (r2 : re_R v2) {x3 : Int32}
    {ae1 : Nat} (e2 : nb_fd h a0 7 2 (.ref ae1)) {xe3 : Int32} (e4 : nb_fd h a0 7 5 (.int xe3)) {w : List Value} {i : Nat} (e : re_hg h ae1 = some (103, w)) (hx : xe3 = i32 i) (hi : i < 2147483648) (hl : i < w.length) (hv : v1 = .null ∨ ∃ (b : Nat) (ws : List Value), v1 = .ref b ∧ re_hg h b = some (9, ws)) (K : wp SC 452 d s 20 [(0, .ref a0), (2, v2), (3, .int x3)] [] (re_hw h ae1 (103, w.set i (v1))) Q) : wp SC 452 d s 10 [(0, .ref a0), (1, v1), (2, v2), (3, .int x3)] [] h Q := by
  refine wp_run 1 (pc' := 11) (lv' := [(0, .ref a0), (1, v1), (2, v2), (3, .int x3)]) (st' := [.ref a0]) rfl ?_
  obtain ⟨w2, e2a, e2b⟩ := e2
  refine wp_gf ⟨rfl, rfl⟩ rfl e2a e2b ?_
  refine wp_run 1 (pc' := 15) (lv' := [(0, .ref a0), (1, v1), (2, v2), (3, .int x3)]) (st' := [.ref a0, .ref ae1]) rfl ?_
  obtain ⟨w4, e4a, e4b⟩ := e4
  refine wp_gf ⟨rfl, rfl⟩ rfl e4a e4b ?_
  refine wp_alR (ins := .aload_n 1) (k := 1) (pc' := 19) ⟨rfl, rfl⟩ (Or.inr ⟨_, rfl, rfl, rfl⟩) rfl r1 ?_
  exact wp_aas ⟨rfl, rfl⟩ e ⟨by decide, by decide⟩ hx hi hl (hv.elim Or.inl (fun z => by obtain ⟨b, ws, z1, z2⟩ := z; exact Or.inr ⟨b, _, ws, z1, z2, by decide⟩)) (wp_weak (re_sb_at rfl (re_sb_at rfl (re_sb_at rfl (re_sb_nil _)))) K)
theorem B452_20 {SC : List Value} {d s : Nat} {h : re_H} {Q : Nat → Value → re_H → Prop} {a0 : Nat} {v2 : Value} (r2 : re_R v2) {x3 : Int32}
    {ae1 : Nat} (e2 : nb_fd h a0 7 3 (.ref ae1)) {xe3 : Int32} (e4 : nb_fd h a0 7 5 (.int xe3)) {w : List Value} {i : Nat} (e : re_hg h ae1 = some (106, w)) (hx : xe3 = i32 i) (hi : i < 2147483648) (hl : i < w.length) (hv : v2 = .null ∨ ∃ (b : Nat) (ws : List Value), v2 = .ref b ∧ re_hg h b = some (10, ws)) (K : wp SC 452 d s 30 [(0, .ref a0), (3, .int x3)] [] (re_hw h ae1 (106, w.set i (v2))) Q) : wp SC 452 d s 20 [(0, .ref a0), (2, v2), (3, .int x3)] [] h Q := by
  refine wp_run 1 (pc' := 21) (lv' := [(0, .ref a0), (2, v2), (3, .int x3)]) (st' := [.ref a0]) rfl ?_
  obtain ⟨w2, e2a, e2b⟩ := e2
  refine wp_gf ⟨rfl, rfl⟩ rfl e2a e2b ?_
  refine wp_run 1 (pc' := 25) (lv' := [(0, .ref a0), (2, v2), (3, .int x3)]) (st' := [.ref a0, .ref ae1]) rfl ?_
  obtain ⟨w4, e4a, e4b⟩ := e4
  refine wp_gf ⟨rfl, rfl⟩ rfl e4a e4b ?_
  refine wp_alR (ins := .aload_n 2) (k := 2) (pc' := 29) ⟨rfl, rfl⟩ (Or.inr ⟨_, rfl, rfl, rfl⟩) rfl r2 ?_
  exact wp_aas ⟨rfl, rfl⟩ e ⟨by decide, by decide⟩ hx hi hl (hv.elim Or.inl (fun z => by obtain ⟨b, ws, z1, z2⟩ := z; exact Or.inr ⟨b, _, ws, z1, z2, by decide⟩)) (wp_weak (re_sb_at rfl (re_sb_at rfl (re_sb_nil _))) K)
theorem B452_30 {SC : List Value} {d s : Nat} {h : re_H} {Q : Nat → Value → re_H → Prop} {a0 : Nat} {x3 : Int32}
    {ae1 : Nat} (e2 : nb_fd h a0 7 4 (.ref ae1)) {xe3 : Int32} (e4 : nb_fd h a0 7 5 (.int xe3)) {w : List Value} {i : Nat} (e : re_hg h ae1 = some (102, w)) (hx : xe3 = i32 i) (hi : i < 2147483648) (hl : i < w.length) (K : wp SC 452 d s 40 [(0, .ref a0)] [] (re_hw h ae1 (102, w.set i (.int (vp_nar .boolean x3)))) Q) : wp SC 452 d s 30 [(0, .ref a0), (3, .int x3)] [] h Q := by
  refine wp_run 1 (pc' := 31) (lv' := [(0, .ref a0), (3, .int x3)]) (st' := [.ref a0]) rfl ?_
  obtain ⟨w2, e2a, e2b⟩ := e2
  refine wp_gf ⟨rfl, rfl⟩ rfl e2a e2b ?_
  refine wp_run 1 (pc' := 35) (lv' := [(0, .ref a0), (3, .int x3)]) (st' := [.ref a0, .ref ae1]) rfl ?_
  obtain ⟨w4, e4a, e4b⟩ := e4
  refine wp_gf ⟨rfl, rfl⟩ rfl e4a e4b ?_
  refine wp_run 1 (pc' := 39) (lv' := [(0, .ref a0), (3, .int x3)]) (st' := [.int x3, .int xe3, .ref ae1]) rfl ?_
  exact wp_bas ⟨rfl, rfl⟩ e rfl hx hi hl (wp_weak (re_sb_at rfl (re_sb_nil _)) K)
theorem B452_40 {SC : List Value} {d s : Nat} {h : re_H} {Q : Nat → Value → re_H → Prop} {a0 : Nat}
    {xe1 : Int32} (e2 : nb_fd h a0 7 5 (.int xe1)) {w : List Value} (e : re_hg h a0 = some (7, w)) (hk : 5 < w.length) (K : wp SC 452 d s 50 [] [] (re_hw h a0 (7, w.set 5 (.int (xe1 + (i32 1))))) Q) : wp SC 452 d s 40 [(0, .ref a0)] [] h Q := by
  refine wp_run 2 (pc' := 42) (lv' := [(0, .ref a0)]) (st' := [.ref a0, .ref a0]) rfl ?_
  obtain ⟨w2, e2a, e2b⟩ := e2
  refine wp_gf ⟨rfl, rfl⟩ rfl e2a e2b ?_
  refine wp_run 2 (pc' := 47) (lv' := [(0, .ref a0)]) (st' := [.int (xe1 + (i32 1)), .ref a0]) rfl ?_
  exact wp_pf ⟨rfl, rfl⟩ rfl (Or.inl rfl) e hk (fit_i _) (wp_weak (re_sb_nil _) K)
theorem B452_50 {SC : List Value} {d s : Nat} {h : re_H} {Q : Nat → Value → re_H → Prop} 
    (K : Q 0 .null h) : wp SC 452 d s 50 [] [] h Q := by
  exact wp_retv ⟨rfl, rfl⟩ rfl K
theorem B453_0 {SC : List Value} {d s : Nat} {h : re_H} {Q : Nat → Value → re_H → Prop} {a0 : Nat} {v1 : Value} (r1 : re_R v1) {v2 : Value} (r2 : re_R v2)
    {b1 : Nat} (n1 : v1 = .ref b1) {xe2 : Int32} (e3 : nb_fd h b1 9 0 (.int xe2)) (hx : xe2.toInt < 3 ∨ 8 < xe2.toInt) (K : wp SC 453 d s 77 [] [] h Q) : wp SC 453 d s 0 [(0, .ref a0), (1, v1), (2, v2)] [] h Q := by
  refine wp_alR (ins := .aload_n 1) (k := 1) (pc' := 1) ⟨rfl, rfl⟩ (Or.inr ⟨_, rfl, rfl, rfl⟩) rfl r1 ?_
  subst n1
  obtain ⟨w3, e3a, e3b⟩ := e3
  refine wp_gf ⟨rfl, rfl⟩ rfl e3a e3b ?_
  exact wp_tsd ⟨rfl, rfl⟩ rfl hx (wp_weak (re_sb_nil _) K)
theorem B453_0_3 {SC : List Value} {d s : Nat} {h : re_H} {Q : Nat → Value → re_H → Prop} {a0 : Nat} {v1 : Value} (r1 : re_R v1) {v2 : Value} (r2 : re_R v2)
    {b1 : Nat} (n1 : v1 = .ref b1) (e3 : nb_fd h b1 9 0 (.int (i32 3))) (K : wp SC 453 d s 44 [(0, .ref a0)] [] h Q) : wp SC 453 d s 0 [(0, .ref a0), (1, v1), (2, v2)] [] h Q := by
  refine wp_alR (ins := .aload_n 1) (k := 1) (pc' := 1) ⟨rfl, rfl⟩ (Or.inr ⟨_, rfl, rfl, rfl⟩) rfl r1 ?_
  subst n1
  obtain ⟨w3, e3a, e3b⟩ := e3
  refine wp_gf ⟨rfl, rfl⟩ rfl e3a e3b ?_
  exact wp_pure (pc' := 44) (lv' := [(0, .ref a0), (1, .ref b1), (2, v2)]) (st' := []) ⟨rfl, rfl⟩ rfl (wp_weak (re_sb_at rfl (re_sb_nil _)) K)
theorem B453_0_4 {SC : List Value} {d s : Nat} {h : re_H} {Q : Nat → Value → re_H → Prop} {a0 : Nat} {v1 : Value} (r1 : re_R v1) {v2 : Value} (r2 : re_R v2)
    {b1 : Nat} (n1 : v1 = .ref b1) (e3 : nb_fd h b1 9 0 (.int (i32 4))) (K : wp SC 453 d s 49 [(0, .ref a0), (1, .ref b1)] [] h Q) : wp SC 453 d s 0 [(0, .ref a0), (1, v1), (2, v2)] [] h Q := by
  refine wp_alR (ins := .aload_n 1) (k := 1) (pc' := 1) ⟨rfl, rfl⟩ (Or.inr ⟨_, rfl, rfl, rfl⟩) rfl r1 ?_
  subst n1
  obtain ⟨w3, e3a, e3b⟩ := e3
  refine wp_gf ⟨rfl, rfl⟩ rfl e3a e3b ?_
  exact wp_pure (pc' := 49) (lv' := [(0, .ref a0), (1, .ref b1), (2, v2)]) (st' := []) ⟨rfl, rfl⟩ rfl (wp_weak (re_sb_at rfl (re_sb_at rfl (re_sb_nil _))) K)
theorem B453_0_5 {SC : List Value} {d s : Nat} {h : re_H} {Q : Nat → Value → re_H → Prop} {a0 : Nat} {v1 : Value} (r1 : re_R v1) {v2 : Value} (r2 : re_R v2)
    {b1 : Nat} (n1 : v1 = .ref b1) (e3 : nb_fd h b1 9 0 (.int (i32 5))) (K : wp SC 453 d s 58 [(0, .ref a0), (1, .ref b1), (2, v2)] [] h Q) : wp SC 453 d s 0 [(0, .ref a0), (1, v1), (2, v2)] [] h Q := by
  refine wp_alR (ins := .aload_n 1) (k := 1) (pc' := 1) ⟨rfl, rfl⟩ (Or.inr ⟨_, rfl, rfl, rfl⟩) rfl r1 ?_
  subst n1
  obtain ⟨w3, e3a, e3b⟩ := e3
  refine wp_gf ⟨rfl, rfl⟩ rfl e3a e3b ?_
  exact wp_pure (pc' := 58) (lv' := [(0, .ref a0), (1, .ref b1), (2, v2)]) (st' := []) ⟨rfl, rfl⟩ rfl (wp_weak (re_sb_at rfl (re_sb_at rfl (re_sb_at rfl (re_sb_nil _)))) K)
theorem B453_0_6 {SC : List Value} {d s : Nat} {h : re_H} {Q : Nat → Value → re_H → Prop} {a0 : Nat} {v1 : Value} (r1 : re_R v1) {v2 : Value} (r2 : re_R v2)
    {b1 : Nat} (n1 : v1 = .ref b1) (e3 : nb_fd h b1 9 0 (.int (i32 6))) (K : wp SC 453 d s 65 [(0, .ref a0), (1, .ref b1), (2, v2)] [] h Q) : wp SC 453 d s 0 [(0, .ref a0), (1, v1), (2, v2)] [] h Q := by
  refine wp_alR (ins := .aload_n 1) (k := 1) (pc' := 1) ⟨rfl, rfl⟩ (Or.inr ⟨_, rfl, rfl, rfl⟩) rfl r1 ?_
  subst n1
  obtain ⟨w3, e3a, e3b⟩ := e3
  refine wp_gf ⟨rfl, rfl⟩ rfl e3a e3b ?_
  exact wp_pure (pc' := 65) (lv' := [(0, .ref a0), (1, .ref b1), (2, v2)]) (st' := []) ⟨rfl, rfl⟩ rfl (wp_weak (re_sb_at rfl (re_sb_at rfl (re_sb_at rfl (re_sb_nil _)))) K)
theorem B453_0_7 {SC : List Value} {d s : Nat} {h : re_H} {Q : Nat → Value → re_H → Prop} {a0 : Nat} {v1 : Value} (r1 : re_R v1) {v2 : Value} (r2 : re_R v2)
    {b1 : Nat} (n1 : v1 = .ref b1) (e3 : nb_fd h b1 9 0 (.int (i32 7))) (K : wp SC 453 d s 77 [] [] h Q) : wp SC 453 d s 0 [(0, .ref a0), (1, v1), (2, v2)] [] h Q := by
  refine wp_alR (ins := .aload_n 1) (k := 1) (pc' := 1) ⟨rfl, rfl⟩ (Or.inr ⟨_, rfl, rfl, rfl⟩) rfl r1 ?_
  subst n1
  obtain ⟨w3, e3a, e3b⟩ := e3
  refine wp_gf ⟨rfl, rfl⟩ rfl e3a e3b ?_
  exact wp_pure (pc' := 77) (lv' := [(0, .ref a0), (1, .ref b1), (2, v2)]) (st' := []) ⟨rfl, rfl⟩ rfl (wp_weak (re_sb_nil _) K)
theorem B453_0_8 {SC : List Value} {d s : Nat} {h : re_H} {Q : Nat → Value → re_H → Prop} {a0 : Nat} {v1 : Value} (r1 : re_R v1) {v2 : Value} (r2 : re_R v2)
    {b1 : Nat} (n1 : v1 = .ref b1) (e3 : nb_fd h b1 9 0 (.int (i32 8))) (K : wp SC 453 d s 72 [(0, .ref a0)] [] h Q) : wp SC 453 d s 0 [(0, .ref a0), (1, v1), (2, v2)] [] h Q := by
  refine wp_alR (ins := .aload_n 1) (k := 1) (pc' := 1) ⟨rfl, rfl⟩ (Or.inr ⟨_, rfl, rfl, rfl⟩) rfl r1 ?_
  subst n1
  obtain ⟨w3, e3a, e3b⟩ := e3
  refine wp_gf ⟨rfl, rfl⟩ rfl e3a e3b ?_
  exact wp_pure (pc' := 72) (lv' := [(0, .ref a0), (1, .ref b1), (2, v2)]) (st' := []) ⟨rfl, rfl⟩ rfl (wp_weak (re_sb_at rfl (re_sb_nil _)) K)
theorem B453_44 {SC : List Value} {d s : Nat} {h : re_H} {Q : Nat → Value → re_H → Prop} {a0 : Nat}
    {c : Nat} {w : List Value} (eg : re_hg h a0 = some (c, w)) (ec : c = 7) (K : wp SC 454 d 0 0 [(0, .ref a0)] [] h (wp_ret SC 453 (d + 1) s 48 [] [] Q)) : wp SC 453 (d + 1) s 44 [(0, .ref a0)] [] h Q := by
  refine wp_run 1 (pc' := 45) (lv' := [(0, .ref a0)]) (st' := [.ref a0]) rfl ?_
  have eA : lv_args 0 (.ref a0 :: [].reverse) = [(0, .ref a0)] := by simp [lv_args, vc_i, vc_l, vc_r, vc_n, vc_a]
  refine wp_callV (ar := []) (rest := []) (s1 := 0) (s2 := s) (d' := d) ⟨rfl, rfl⟩ rfl (Or.inl rfl)  (by simp [re_cat, vc_i, vc_l, vc_r, vc_n, vc_a]) (by rw [show re_cat (.ref a0 :: [].reverse) = 1 from by simp [re_cat, vc_i, vc_l, vc_r, vc_n, vc_a]]; decide) (by decide) rfl eg ec rfl (Nat.le_of_eq (Nat.zero_add s)) ?_
  rw [eA]
  exact wp_mono K (fun k v h' z => wp_ret_weak (re_sb_nil _) z)
theorem B453_48 {SC : List Value} {d s : Nat} {h : re_H} {Q : Nat → Value → re_H → Prop} {xs0 : Int32}
    (hz : xs0 = 0 ∨ xs0 = 1) (K : Q 1 (.int xs0) h) : wp SC 453 d s 48 [] [.int xs0] h Q := by
  exact wp_retz ⟨rfl, rfl⟩ rfl hz K
theorem B453_49 {SC : List Value} {d s : Nat} {h : re_H} {Q : Nat → Value → re_H → Prop} {a0 : Nat} {v1 : Value} (r1 : re_R v1)
    {b1 : Nat} (n1 : v1 = .ref b1) {xe2 : Int32} (e3 : nb_fd h b1 9 1 (.int xe2)) {c : Nat} {w : List Value} (eg : re_hg h a0 = some (c, w)) (ec : c = 7) (K : wp SC 456 d 0 0 [(0, .ref a0), (1, .int xe2)] [] h (wp_ret SC 453 (d + 1) s 57 [] [] Q)) : wp SC 453 (d + 1) s 49 [(0, .ref a0), (1, v1)] [] h Q := by
  refine wp_run 1 (pc' := 50) (lv' := [(0, .ref a0), (1, v1)]) (st' := [.ref a0]) rfl ?_
  refine wp_alR (ins := .aload_n 1) (k := 1) (pc' := 51) ⟨rfl, rfl⟩ (Or.inr ⟨_, rfl, rfl, rfl⟩) rfl r1 ?_
  subst n1
  obtain ⟨w3, e3a, e3b⟩ := e3
  refine wp_gf ⟨rfl, rfl⟩ rfl e3a e3b ?_
  have eA : lv_args 0 (.ref a0 :: [.int xe2].reverse) = [(0, .ref a0), (1, .int xe2)] := by simp [lv_args, vc_i, vc_l, vc_r, vc_n, vc_a]
  refine wp_callV (ar := [.int xe2]) (rest := []) (s1 := 0) (s2 := s) (d' := d) ⟨rfl, rfl⟩ rfl (Or.inl rfl)  (by simp [re_cat, vc_i, vc_l, vc_r, vc_n, vc_a]) (by rw [show re_cat (.ref a0 :: [.int xe2].reverse) = 2 from by simp [re_cat, vc_i, vc_l, vc_r, vc_n, vc_a]]; decide) (by decide) rfl eg ec rfl (Nat.le_of_eq (Nat.zero_add s)) ?_
  rw [eA]
  exact wp_mono K (fun k v h' z => wp_ret_weak (re_sb_nil _) z)
theorem B453_57 {SC : List Value} {d s : Nat} {h : re_H} {Q : Nat → Value → re_H → Prop} {xs0 : Int32}
    (hz : xs0 = 0 ∨ xs0 = 1) (K : Q 1 (.int xs0) h) : wp SC 453 d s 57 [] [.int xs0] h Q := by
  exact wp_retz ⟨rfl, rfl⟩ rfl hz K
theorem B453_58 {SC : List Value} {d s : Nat} {h : re_H} {Q : Nat → Value → re_H → Prop} {a0 : Nat} {v1 : Value} (r1 : re_R v1) {v2 : Value} (r2 : re_R v2)
    {c : Nat} {w : List Value} (eg : re_hg h a0 = some (c, w)) (ec : c = 7) (K : wp SC 457 d 0 0 [(0, .ref a0), (1, v1), (2, v2)] [] h (wp_ret SC 453 (d + 1) s 64 [] [] Q)) : wp SC 453 (d + 1) s 58 [(0, .ref a0), (1, v1), (2, v2)] [] h Q := by
  refine wp_run 1 (pc' := 59) (lv' := [(0, .ref a0), (1, v1), (2, v2)]) (st' := [.ref a0]) rfl ?_
  refine wp_alR (ins := .aload_n 1) (k := 1) (pc' := 60) ⟨rfl, rfl⟩ (Or.inr ⟨_, rfl, rfl, rfl⟩) rfl r1 ?_
  refine wp_alR (ins := .aload_n 2) (k := 2) (pc' := 61) ⟨rfl, rfl⟩ (Or.inr ⟨_, rfl, rfl, rfl⟩) rfl r2 ?_
  have eA : lv_args 0 (.ref a0 :: [v2, v1].reverse) = [(0, .ref a0), (1, v1), (2, v2)] := by simp [lv_args, vc_i, vc_l, vc_r, vc_n, vc_a, re_R_cat r2, re_R_cat r1]
  refine wp_callV (ar := [v2, v1]) (rest := []) (s1 := 0) (s2 := s) (d' := d) ⟨rfl, rfl⟩ rfl (Or.inl rfl)  (by simp [re_cat, vc_i, vc_l, vc_r, vc_n, vc_a]) (by rw [show re_cat (.ref a0 :: [v2, v1].reverse) = 3 from by simp [re_cat, vc_i, vc_l, vc_r, vc_n, vc_a, re_R_cat r2, re_R_cat r1]]; decide) (by decide) rfl eg ec rfl (Nat.le_of_eq (Nat.zero_add s)) ?_
  rw [eA]
  exact wp_mono K (fun k v h' z => wp_ret_weak (re_sb_nil _) z)
theorem B453_64 {SC : List Value} {d s : Nat} {h : re_H} {Q : Nat → Value → re_H → Prop} {xs0 : Int32}
    (hz : xs0 = 0 ∨ xs0 = 1) (K : Q 1 (.int xs0) h) : wp SC 453 d s 64 [] [.int xs0] h Q := by
  exact wp_retz ⟨rfl, rfl⟩ rfl hz K
theorem B453_65 {SC : List Value} {d s : Nat} {h : re_H} {Q : Nat → Value → re_H → Prop} {a0 : Nat} {v1 : Value} (r1 : re_R v1) {v2 : Value} (r2 : re_R v2)
    {c : Nat} {w : List Value} (eg : re_hg h a0 = some (c, w)) (ec : c = 7) (K : wp SC 458 d 0 0 [(0, .ref a0), (1, v1), (2, v2)] [] h (wp_ret SC 453 (d + 1) s 71 [] [] Q)) : wp SC 453 (d + 1) s 65 [(0, .ref a0), (1, v1), (2, v2)] [] h Q := by
  refine wp_run 1 (pc' := 66) (lv' := [(0, .ref a0), (1, v1), (2, v2)]) (st' := [.ref a0]) rfl ?_
  refine wp_alR (ins := .aload_n 1) (k := 1) (pc' := 67) ⟨rfl, rfl⟩ (Or.inr ⟨_, rfl, rfl, rfl⟩) rfl r1 ?_
  refine wp_alR (ins := .aload_n 2) (k := 2) (pc' := 68) ⟨rfl, rfl⟩ (Or.inr ⟨_, rfl, rfl, rfl⟩) rfl r2 ?_
  have eA : lv_args 0 (.ref a0 :: [v2, v1].reverse) = [(0, .ref a0), (1, v1), (2, v2)] := by simp [lv_args, vc_i, vc_l, vc_r, vc_n, vc_a, re_R_cat r2, re_R_cat r1]
  refine wp_callV (ar := [v2, v1]) (rest := []) (s1 := 0) (s2 := s) (d' := d) ⟨rfl, rfl⟩ rfl (Or.inl rfl)  (by simp [re_cat, vc_i, vc_l, vc_r, vc_n, vc_a]) (by rw [show re_cat (.ref a0 :: [v2, v1].reverse) = 3 from by simp [re_cat, vc_i, vc_l, vc_r, vc_n, vc_a, re_R_cat r2, re_R_cat r1]]; decide) (by decide) rfl eg ec rfl (Nat.le_of_eq (Nat.zero_add s)) ?_
  rw [eA]
  exact wp_mono K (fun k v h' z => wp_ret_weak (re_sb_nil _) z)
theorem B453_71 {SC : List Value} {d s : Nat} {h : re_H} {Q : Nat → Value → re_H → Prop} {xs0 : Int32}
    (hz : xs0 = 0 ∨ xs0 = 1) (K : Q 1 (.int xs0) h) : wp SC 453 d s 71 [] [.int xs0] h Q := by
  exact wp_retz ⟨rfl, rfl⟩ rfl hz K
theorem B453_72 {SC : List Value} {d s : Nat} {h : re_H} {Q : Nat → Value → re_H → Prop} {a0 : Nat}
    {c : Nat} {w : List Value} (eg : re_hg h a0 = some (c, w)) (ec : c = 7) (K : wp SC 459 d 0 0 [(0, .ref a0)] [] h (wp_ret SC 453 (d + 1) s 76 [] [] Q)) : wp SC 453 (d + 1) s 72 [(0, .ref a0)] [] h Q := by
  refine wp_run 1 (pc' := 73) (lv' := [(0, .ref a0)]) (st' := [.ref a0]) rfl ?_
  have eA : lv_args 0 (.ref a0 :: [].reverse) = [(0, .ref a0)] := by simp [lv_args, vc_i, vc_l, vc_r, vc_n, vc_a]
  refine wp_callV (ar := []) (rest := []) (s1 := 0) (s2 := s) (d' := d) ⟨rfl, rfl⟩ rfl (Or.inl rfl)  (by simp [re_cat, vc_i, vc_l, vc_r, vc_n, vc_a]) (by rw [show re_cat (.ref a0 :: [].reverse) = 1 from by simp [re_cat, vc_i, vc_l, vc_r, vc_n, vc_a]]; decide) (by decide) rfl eg ec rfl (Nat.le_of_eq (Nat.zero_add s)) ?_
  rw [eA]
  exact wp_mono K (fun k v h' z => wp_ret_weak (re_sb_nil _) z)
theorem B453_76 {SC : List Value} {d s : Nat} {h : re_H} {Q : Nat → Value → re_H → Prop} {xs0 : Int32}
    (hz : xs0 = 0 ∨ xs0 = 1) (K : Q 1 (.int xs0) h) : wp SC 453 d s 76 [] [.int xs0] h Q := by
  exact wp_retz ⟨rfl, rfl⟩ rfl hz K
theorem B453_77 {SC : List Value} {d s : Nat} {h : re_H} {Q : Nat → Value → re_H → Prop} 
    (K : Q 1 (.int (i32 0)) h) : wp SC 453 d s 77 [] [] h Q := by
  refine wp_run 1 (pc' := 78) (lv' := []) (st' := [.int (i32 0)]) rfl ?_
  exact wp_retz ⟨rfl, rfl⟩ rfl (Or.inl rfl) K
set_option maxRecDepth 20000 in
theorem B454_0 {SC : List Value} {d s : Nat} {h : re_H} {Q : Nat → Value → re_H → Prop} {a0 : Nat}
    {xe1 : Int32} (e2 : nb_fd h a0 7 8 (.int xe1)) (K1 : xe1 < (i32 1) → wp SC 454 d s 38 [] [] h Q) (K2 : ¬ xe1 < (i32 1) → wp SC 454 d s 8 [(0, .ref a0)] [] h Q) : wp SC 454 d s 0 [(0, .ref a0)] [] h Q := by
  refine wp_run 1 (pc' := 1) (lv' := [(0, .ref a0)]) (st' := [.ref a0]) rfl ?_
  obtain ⟨w2, e2a, e2b⟩ := e2
  refine wp_gf ⟨rfl, rfl⟩ rfl e2a e2b ?_
  refine wp_run 1 (pc' := 5) (lv' := [(0, .ref a0)]) (st' := [.int (i32 1), .int xe1]) rfl ?_
  exact wp_cmp ⟨rfl, rfl⟩ rfl (fun hc => wp_weak (re_sb_nil _) (K1 (ic1_lt hc))) (fun hc => wp_weak (re_sb_at rfl (re_sb_nil _)) (K2 (ic0_lt hc)))
set_option maxRecDepth 20000 in
theorem B454_8 {SC : List Value} {d s : Nat} {h : re_H} {Q : Nat → Value → re_H → Prop} {a0 : Nat}
    {ae1 : Nat} (e2 : nb_fd h a0 7 7 (.ref ae1)) {xe3 : Int32} (e4 : nb_fd h a0 7 8 (.int xe3)) {ve5 : Value} (re5 : re_R ve5) (e6 : nb_ar h ae1 106 (xe3 - (i32 1)) (ve5)) (K1 : ve5 = .null → wp SC 454 d s 22 [(0, .ref a0)] [] h Q) (K2 : ∀ b7, ve5 = .ref b7 → wp SC 454 d s 38 [] [] h Q) : wp SC 454 d s 8 [(0, .ref a0)] [] h Q := by
  refine wp_run 1 (pc' := 9) (lv' := [(0, .ref a0)]) (st' := [.ref a0]) rfl ?_
  obtain ⟨w2, e2a, e2b⟩ := e2
  refine wp_gf ⟨rfl, rfl⟩ rfl e2a e2b ?_
  refine wp_run 1 (pc' := 13) (lv' := [(0, .ref a0)]) (st' := [.ref a0, .ref ae1]) rfl ?_
  obtain ⟨w4, e4a, e4b⟩ := e4
  refine wp_gf ⟨rfl, rfl⟩ rfl e4a e4b ?_
  refine wp_run 2 (pc' := 18) (lv' := [(0, .ref a0)]) (st' := [.int (xe3 - (i32 1)), .ref ae1]) rfl ?_
  obtain ⟨w6, i6, e6a, e6x, e6i, e6v⟩ := e6
  refine wp_aal ⟨rfl, rfl⟩ e6a ⟨by decide, by decide⟩ e6x e6i e6v ?_
  exact wp_ifnn ⟨rfl, rfl⟩ rfl re5 (fun bb hc => by subst hc; exact wp_weak (re_sb_nil _) (K2 bb rfl)) (fun hc => by subst hc; exact wp_weak (re_sb_at rfl (re_sb_nil _)) (K1 rfl))
set_option maxRecDepth 20000 in
theorem B454_22 {SC : List Value} {d s : Nat} {h : re_H} {Q : Nat → Value → re_H → Prop} {a0 : Nat}
    {ae1 : Nat} (e2 : nb_fd h a0 7 6 (.ref ae1)) {xe3 : Int32} (e4 : nb_fd h a0 7 8 (.int xe3)) {le5 : Int64} (e6 : nb_ar h ae1 101 (xe3 - (i32 1)) (.long le5)) (K1 : ¬ le5 < (1) → wp SC 454 d s 40 [(0, .ref a0)] [] h Q) (K2 : le5 < (1) → wp SC 454 d s 38 [] [] h Q) : wp SC 454 d s 22 [(0, .ref a0)] [] h Q := by
  refine wp_run 1 (pc' := 23) (lv' := [(0, .ref a0)]) (st' := [.ref a0]) rfl ?_
  obtain ⟨w2, e2a, e2b⟩ := e2
  refine wp_gf ⟨rfl, rfl⟩ rfl e2a e2b ?_
  refine wp_run 1 (pc' := 27) (lv' := [(0, .ref a0)]) (st' := [.ref a0, .ref ae1]) rfl ?_
  obtain ⟨w4, e4a, e4b⟩ := e4
  refine wp_gf ⟨rfl, rfl⟩ rfl e4a e4b ?_
  refine wp_run 2 (pc' := 32) (lv' := [(0, .ref a0)]) (st' := [.int (xe3 - (i32 1)), .ref ae1]) rfl ?_
  obtain ⟨w6, i6, e6a, e6x, e6i, e6v⟩ := e6
  refine wp_lal ⟨rfl, rfl⟩ e6a rfl e6x e6i e6v ?_
  refine wp_run 2 (pc' := 35) (lv' := [(0, .ref a0)]) (st' := [.int (lg_cmp le5 (1))]) rfl ?_
  exact wp_if ⟨rfl, rfl⟩ rfl (fun hc => wp_weak (re_sb_at rfl (re_sb_nil _)) (K1 (lc1_ge hc))) (fun hc => wp_weak (re_sb_nil _) (K2 (lc0_ge hc)))
set_option maxRecDepth 20000 in
theorem B454_38 {SC : List Value} {d s : Nat} {h : re_H} {Q : Nat → Value → re_H → Prop} 
    (K : Q 1 (.int (i32 0)) h) : wp SC 454 d s 38 [] [] h Q := by
  refine wp_run 1 (pc' := 39) (lv' := []) (st' := [.int (i32 0)]) rfl ?_
  exact wp_retz ⟨rfl, rfl⟩ rfl (Or.inl rfl) K
set_option maxRecDepth 20000 in
theorem B454_40 {SC : List Value} {d s : Nat} {h : re_H} {Q : Nat → Value → re_H → Prop} {a0 : Nat}
    {xe1 : Int32} (e2 : nb_fd h a0 7 8 (.int xe1)) {w : List Value} (e : re_hg h a0 = some (7, w)) (hk : 8 < w.length) (K : wp SC 454 d s 50 [(0, .ref a0)] [] (re_hw h a0 (7, w.set 8 (.int (xe1 - (i32 1))))) Q) : wp SC 454 d s 40 [(0, .ref a0)] [] h Q := by
  refine wp_run 2 (pc' := 42) (lv' := [(0, .ref a0)]) (st' := [.ref a0, .ref a0]) rfl ?_
  obtain ⟨w2, e2a, e2b⟩ := e2
  refine wp_gf ⟨rfl, rfl⟩ rfl e2a e2b ?_
  refine wp_run 2 (pc' := 47) (lv' := [(0, .ref a0)]) (st' := [.int (xe1 - (i32 1)), .ref a0]) rfl ?_
  exact wp_pf ⟨rfl, rfl⟩ rfl (Or.inl rfl) e hk (fit_i _) (wp_weak (re_sb_at rfl (re_sb_nil _)) K)
set_option maxRecDepth 20000 in
theorem B454_50 {SC : List Value} {d s : Nat} {h : re_H} {Q : Nat → Value → re_H → Prop} {a0 : Nat}
    {xe1 : Int32} (e2 : nb_fd h a0 7 11 (.int xe1)) {w : List Value} (e : re_hg h a0 = some (7, w)) (hk : 11 < w.length) (K : wp SC 454 d s 60 [(0, .ref a0)] [] (re_hw h a0 (7, w.set 11 (.int (xe1 + (i32 1))))) Q) : wp SC 454 d s 50 [(0, .ref a0)] [] h Q := by
  refine wp_run 2 (pc' := 52) (lv' := [(0, .ref a0)]) (st' := [.ref a0, .ref a0]) rfl ?_
  obtain ⟨w2, e2a, e2b⟩ := e2
  refine wp_gf ⟨rfl, rfl⟩ rfl e2a e2b ?_
  refine wp_run 2 (pc' := 57) (lv' := [(0, .ref a0)]) (st' := [.int (xe1 + (i32 1)), .ref a0]) rfl ?_
  exact wp_pf ⟨rfl, rfl⟩ rfl (Or.inl rfl) e hk (fit_i _) (wp_weak (re_sb_at rfl (re_sb_nil _)) K)
set_option maxRecDepth 20000 in
theorem B454_60 {SC : List Value} {d s : Nat} {h : re_H} {Q : Nat → Value → re_H → Prop} {a0 : Nat}
    {ae1 : Nat} (e2 : nb_fd h a0 7 6 (.ref ae1)) {xe3 : Int32} (e4 : nb_fd h a0 7 8 (.int xe3)) {le5 : Int64} (e6 : nb_ar h ae1 101 xe3 (.long le5)) (K : wp SC 454 d s 75 [(0, .ref a0)] [.long (if (2147483647) < le5 then (2147483647) else le5)] h Q) : wp SC 454 d s 60 [(0, .ref a0)] [] h Q := by
  refine wp_run 1 (pc' := 61) (lv' := [(0, .ref a0)]) (st' := [.ref a0]) rfl ?_
  obtain ⟨w2, e2a, e2b⟩ := e2
  refine wp_gf ⟨rfl, rfl⟩ rfl e2a e2b ?_
  refine wp_run 1 (pc' := 65) (lv' := [(0, .ref a0)]) (st' := [.ref a0, .ref ae1]) rfl ?_
  obtain ⟨w4, e4a, e4b⟩ := e4
  refine wp_gf ⟨rfl, rfl⟩ rfl e4a e4b ?_
  obtain ⟨w6, i6, e6a, e6x, e6i, e6v⟩ := e6
  refine wp_lal ⟨rfl, rfl⟩ e6a rfl e6x e6i e6v ?_
  refine wp_cst (pc' := 72) (v := .long (2147483647)) ⟨rfl, rfl⟩ rfl rfl rfl rfl rfl ?_
  refine wp_min ⟨rfl, rfl⟩ rfl (by simp [re_cat, vc_i, vc_l, vc_r, vc_n, vc_a]) ?_
  exact wp_weak (re_sb_at rfl (re_sb_nil _)) K
set_option maxRecDepth 20000 in
theorem B454_75 {SC : List Value} {d s : Nat} {h : re_H} {Q : Nat → Value → re_H → Prop} {a0 : Nat} {ls0 : Int64}
    {ae1 : Nat} (e2 : nb_fd h a0 7 1 (.ref ae1)) {xe3 : Int32} (e4 : nb_fd h ae1 4 1 (.int xe3)) {xe5 : Int32} (e6 : nb_fd h a0 7 9 (.int xe5)) {xe7 : Int32} (e8 : nb_fd h a0 7 11 (.int xe7)) (K1 : ¬ 0 < ls0.toInt32 → wp SC 454 d s 132 [] [] h Q) (K2 : 0 < ls0.toInt32 → wp SC 454 d s 116 [(0, .ref a0), (1, .int ls0.toInt32), (3, .int ((((((xe3 * (i32 31)) + (xe5 * (i32 17))) + xe7) * (1664525)) + (1013904223)).toUInt32 >>> ((i32 16).toUInt32 &&& Int32.toUInt32 31)).toInt32)] [] h Q) : wp SC 454 d s 75 [(0, .ref a0)] [.long ls0] h Q := by
  refine wp_run 3 (pc' := 78) (lv' := [(1, .int ls0.toInt32), (0, .ref a0)]) (st' := [.ref a0]) rfl ?_
  obtain ⟨w2, e2a, e2b⟩ := e2
  refine wp_gf ⟨rfl, rfl⟩ rfl e2a e2b ?_
  obtain ⟨w4, e4a, e4b⟩ := e4
  refine wp_gf ⟨rfl, rfl⟩ rfl e4a e4b ?_
  refine wp_bi (x := (i32 31)) ⟨rfl, rfl⟩ (by decide) ?_
  refine wp_run 2 (pc' := 88) (lv' := [(1, .int ls0.toInt32), (0, .ref a0)]) (st' := [.ref a0, .int (xe3 * (i32 31))]) rfl ?_
  obtain ⟨w6, e6a, e6b⟩ := e6
  refine wp_gf ⟨rfl, rfl⟩ rfl e6a e6b ?_
  refine wp_bi (x := (i32 17)) ⟨rfl, rfl⟩ (by decide) ?_
  refine wp_run 3 (pc' := 96) (lv' := [(1, .int ls0.toInt32), (0, .ref a0)]) (st' := [.ref a0, .int ((xe3 * (i32 31)) + (xe5 * (i32 17)))]) rfl ?_
  obtain ⟨w8, e8a, e8b⟩ := e8
  refine wp_gf ⟨rfl, rfl⟩ rfl e8a e8b ?_
  refine wp_run 3 (pc' := 102) (lv' := [(2, .int (((xe3 * (i32 31)) + (xe5 * (i32 17))) + xe7)), (1, .int ls0.toInt32), (0, .ref a0)]) (st' := [.int (((xe3 * (i32 31)) + (xe5 * (i32 17))) + xe7)]) rfl ?_
  refine wp_cst (pc' := 104) (v := .int (1664525)) ⟨rfl, rfl⟩ rfl rfl rfl rfl rfl ?_
  refine wp_run 1 (pc' := 105) (lv' := [(2, .int (((xe3 * (i32 31)) + (xe5 * (i32 17))) + xe7)), (1, .int ls0.toInt32), (0, .ref a0)]) (st' := [.int ((((xe3 * (i32 31)) + (xe5 * (i32 17))) + xe7) * (1664525))]) rfl ?_
  refine wp_cst (pc' := 107) (v := .int (1013904223)) ⟨rfl, rfl⟩ rfl rfl rfl rfl rfl ?_
  refine wp_run 1 (pc' := 108) (lv' := [(2, .int (((xe3 * (i32 31)) + (xe5 * (i32 17))) + xe7)), (1, .int ls0.toInt32), (0, .ref a0)]) (st' := [.int (((((xe3 * (i32 31)) + (xe5 * (i32 17))) + xe7) * (1664525)) + (1013904223))]) rfl ?_
  refine wp_bi (x := (i32 16)) ⟨rfl, rfl⟩ (by decide) ?_
  refine wp_run 3 (pc' := 113) (lv' := [(3, .int ((((((xe3 * (i32 31)) + (xe5 * (i32 17))) + xe7) * (1664525)) + (1013904223)).toUInt32 >>> ((i32 16).toUInt32 &&& Int32.toUInt32 31)).toInt32), (2, .int (((xe3 * (i32 31)) + (xe5 * (i32 17))) + xe7)), (1, .int ls0.toInt32), (0, .ref a0)]) (st' := [.int ls0.toInt32]) rfl ?_
  exact wp_if ⟨rfl, rfl⟩ rfl (fun hc => wp_weak (re_sb_nil _) (K1 (ic1_le hc))) (fun hc => wp_weak (re_sb_at rfl (re_sb_at rfl (re_sb_at rfl (re_sb_nil _)))) (K2 (ic0_le hc)))
set_option maxRecDepth 20000 in
theorem B454_116 {SC : List Value} {d s : Nat} {h : re_H} {Q : Nat → Value → re_H → Prop} {a0 : Nat} {x1 : Int32} {x3 : Int32}
    (n1 : ¬ x1 = 0) {c : Nat} {w : List Value} (eg : re_hg h a0 = some (c, w)) (ec : c = 7) (K : wp SC 455 d 0 0 [(0, .ref a0), (1, .long (x3 - x3 / x1 * x1).toInt64), (3, .null)] [] h (wp_ret SC 454 (d + 1) s 125 [] [] Q)) : wp SC 454 (d + 1) s 116 [(0, .ref a0), (1, .int x1), (3, .int x3)] [] h Q := by
  refine wp_run 3 (pc' := 119) (lv' := [(0, .ref a0), (1, .int x1), (3, .int x3)]) (st' := [.int x1, .int x3, .ref a0]) rfl ?_
  refine wp_pure (pc' := 120) (lv' := [(0, .ref a0), (1, .int x1), (3, .int x3)]) (st' := [.int (x3 - x3 / x1 * x1), .ref a0]) ⟨rfl, rfl⟩ (by simp only [re_pure, if_neg n1]) ?_
  refine wp_run 2 (pc' := 122) (lv' := [(0, .ref a0), (1, .int x1), (3, .int x3)]) (st' := [.null, .long (x3 - x3 / x1 * x1).toInt64, .ref a0]) rfl ?_
  have eA : lv_args 0 (.ref a0 :: [.null, .long (x3 - x3 / x1 * x1).toInt64].reverse) = [(0, .ref a0), (1, .long (x3 - x3 / x1 * x1).toInt64), (3, .null)] := by simp [lv_args, vc_i, vc_l, vc_r, vc_n, vc_a]
  refine wp_callV (ar := [.null, .long (x3 - x3 / x1 * x1).toInt64]) (rest := []) (s1 := 0) (s2 := s) (d' := d) ⟨rfl, rfl⟩ rfl (Or.inl rfl)  (by simp [re_cat, vc_i, vc_l, vc_r, vc_n, vc_a]) (by rw [show re_cat (.ref a0 :: [.null, .long (x3 - x3 / x1 * x1).toInt64].reverse) = 4 from by simp [re_cat, vc_i, vc_l, vc_r, vc_n, vc_a]]; decide) (by decide) rfl eg ec rfl (Nat.le_of_eq (Nat.zero_add s)) ?_
  rw [eA]
  exact wp_mono K (fun k v h' z => wp_ret_weak (re_sb_nil _) z)
set_option maxRecDepth 20000 in
theorem B454_125 {SC : List Value} {d s : Nat} {h : re_H} {Q : Nat → Value → re_H → Prop} {xs0 : Int32}
    (K1 : xs0 = 0 → wp SC 454 d s 132 [] [] h Q) (K2 : ¬ xs0 = 0 → wp SC 454 d s 128 [] [] h Q) : wp SC 454 d s 125 [] [.int xs0] h Q := by
  exact wp_if ⟨rfl, rfl⟩ rfl (fun hc => wp_weak (re_sb_nil _) (K1 (ic1_eq hc))) (fun hc => wp_weak (re_sb_nil _) (K2 (ic0_eq hc)))
set_option maxRecDepth 20000 in
theorem B454_128 {SC : List Value} {d s : Nat} {h : re_H} {Q : Nat → Value → re_H → Prop} 
    (K : wp SC 454 d s 133 [] [.int (i32 1)] h Q) : wp SC 454 d s 128 [] [] h Q := by
  refine wp_run 2 (pc' := 133) (lv' := []) (st' := [.int (i32 1)]) rfl ?_
  exact wp_weak (re_sb_nil _) K
set_option maxRecDepth 20000 in
theorem B454_132 {SC : List Value} {d s : Nat} {h : re_H} {Q : Nat → Value → re_H → Prop} 
    (K : wp SC 454 d s 133 [] [.int (i32 0)] h Q) : wp SC 454 d s 132 [] [] h Q := by
  refine wp_run 1 (pc' := 133) (lv' := []) (st' := [.int (i32 0)]) rfl ?_
  exact wp_weak (re_sb_nil _) K
set_option maxRecDepth 20000 in
theorem B454_133 {SC : List Value} {d s : Nat} {h : re_H} {Q : Nat → Value → re_H → Prop} {xs0 : Int32}
    (hz : xs0 = 0 ∨ xs0 = 1) (K : Q 1 (.int xs0) h) : wp SC 454 d s 133 [] [.int xs0] h Q := by
  exact wp_retz ⟨rfl, rfl⟩ rfl hz K
theorem B455_0 {SC : List Value} {d s : Nat} {h : re_H} {Q : Nat → Value → re_H → Prop} {a0 : Nat} {l1 : Int64} {v3 : Value} (r3 : re_R v3)
    {xe1 : Int32} (e2 : nb_fd h a0 7 8 (.int xe1)) (K1 : ¬ (i32 300) < xe1 → wp SC 455 d s 12 [(0, .ref a0), (1, .long l1), (3, v3)] [] h Q) (K2 : (i32 300) < xe1 → wp SC 455 d s 10 [] [] h Q) : wp SC 455 d s 0 [(0, .ref a0), (1, .long l1), (3, v3)] [] h Q := by
  refine wp_run 1 (pc' := 1) (lv' := [(0, .ref a0), (1, .long l1), (3, v3)]) (st' := [.ref a0]) rfl ?_
  obtain ⟨w2, e2a, e2b⟩ := e2
  refine wp_gf ⟨rfl, rfl⟩ rfl e2a e2b ?_
  refine wp_si (x := (i32 300)) ⟨rfl, rfl⟩ (by decide) ?_
  exact wp_cmp ⟨rfl, rfl⟩ rfl (fun hc => wp_weak (re_sb_at rfl (re_sb_at rfl (re_sb_at rfl (re_sb_nil _)))) (K1 (ic1_le hc))) (fun hc => wp_weak (re_sb_nil _) (K2 (ic0_le hc)))
theorem B455_10 {SC : List Value} {d s : Nat} {h : re_H} {Q : Nat → Value → re_H → Prop} 
    (K : Q 1 (.int (i32 0)) h) : wp SC 455 d s 10 [] [] h Q := by
  refine wp_run 1 (pc' := 11) (lv' := []) (st' := [.int (i32 0)]) rfl ?_
  exact wp_retz ⟨rfl, rfl⟩ rfl (Or.inl rfl) K
theorem B455_12 {SC : List Value} {d s : Nat} {h : re_H} {Q : Nat → Value → re_H → Prop} {a0 : Nat} {l1 : Int64} {v3 : Value} (r3 : re_R v3)
    {ae1 : Nat} (e2 : nb_fd h a0 7 6 (.ref ae1)) {xe3 : Int32} (e4 : nb_fd h a0 7 8 (.int xe3)) {w : List Value} {i : Nat} (e : re_hg h ae1 = some (101, w)) (hx : xe3 = i32 i) (hi : i < 2147483648) (hl : i < w.length) (K : wp SC 455 d s 22 [(0, .ref a0), (3, v3)] [] (re_hw h ae1 (101, w.set i (.long l1))) Q) : wp SC 455 d s 12 [(0, .ref a0), (1, .long l1), (3, v3)] [] h Q := by
  refine wp_run 1 (pc' := 13) (lv' := [(0, .ref a0), (1, .long l1), (3, v3)]) (st' := [.ref a0]) rfl ?_
  obtain ⟨w2, e2a, e2b⟩ := e2
  refine wp_gf ⟨rfl, rfl⟩ rfl e2a e2b ?_
  refine wp_run 1 (pc' := 17) (lv' := [(0, .ref a0), (1, .long l1), (3, v3)]) (st' := [.ref a0, .ref ae1]) rfl ?_
  obtain ⟨w4, e4a, e4b⟩ := e4
  refine wp_gf ⟨rfl, rfl⟩ rfl e4a e4b ?_
  refine wp_run 1 (pc' := 21) (lv' := [(0, .ref a0), (1, .long l1), (3, v3)]) (st' := [.long l1, .int xe3, .ref ae1]) rfl ?_
  exact wp_las ⟨rfl, rfl⟩ e rfl hx hi hl (wp_weak (re_sb_at rfl (re_sb_at rfl (re_sb_nil _))) K)
theorem B455_22 {SC : List Value} {d s : Nat} {h : re_H} {Q : Nat → Value → re_H → Prop} {a0 : Nat} {v3 : Value} (r3 : re_R v3)
    {ae1 : Nat} (e2 : nb_fd h a0 7 7 (.ref ae1)) {xe3 : Int32} (e4 : nb_fd h a0 7 8 (.int xe3)) {w : List Value} {i : Nat} (e : re_hg h ae1 = some (106, w)) (hx : xe3 = i32 i) (hi : i < 2147483648) (hl : i < w.length) (hv : v3 = .null ∨ ∃ (b : Nat) (ws : List Value), v3 = .ref b ∧ re_hg h b = some (10, ws)) (K : wp SC 455 d s 32 [(0, .ref a0)] [] (re_hw h ae1 (106, w.set i (v3))) Q) : wp SC 455 d s 22 [(0, .ref a0), (3, v3)] [] h Q := by
  refine wp_run 1 (pc' := 23) (lv' := [(0, .ref a0), (3, v3)]) (st' := [.ref a0]) rfl ?_
  obtain ⟨w2, e2a, e2b⟩ := e2
  refine wp_gf ⟨rfl, rfl⟩ rfl e2a e2b ?_
  refine wp_run 1 (pc' := 27) (lv' := [(0, .ref a0), (3, v3)]) (st' := [.ref a0, .ref ae1]) rfl ?_
  obtain ⟨w4, e4a, e4b⟩ := e4
  refine wp_gf ⟨rfl, rfl⟩ rfl e4a e4b ?_
  refine wp_alR (ins := .aload_n 3) (k := 3) (pc' := 31) ⟨rfl, rfl⟩ (Or.inr ⟨_, rfl, rfl, rfl⟩) rfl r3 ?_
  exact wp_aas ⟨rfl, rfl⟩ e ⟨by decide, by decide⟩ hx hi hl (hv.elim Or.inl (fun z => by obtain ⟨b, ws, z1, z2⟩ := z; exact Or.inr ⟨b, _, ws, z1, z2, by decide⟩)) (wp_weak (re_sb_at rfl (re_sb_nil _)) K)
theorem B455_32 {SC : List Value} {d s : Nat} {h : re_H} {Q : Nat → Value → re_H → Prop} {a0 : Nat}
    {xe1 : Int32} (e2 : nb_fd h a0 7 8 (.int xe1)) {w : List Value} (e : re_hg h a0 = some (7, w)) (hk : 8 < w.length) (K : wp SC 455 d s 42 [] [] (re_hw h a0 (7, w.set 8 (.int (xe1 + (i32 1))))) Q) : wp SC 455 d s 32 [(0, .ref a0)] [] h Q := by
  refine wp_run 2 (pc' := 34) (lv' := [(0, .ref a0)]) (st' := [.ref a0, .ref a0]) rfl ?_
  obtain ⟨w2, e2a, e2b⟩ := e2
  refine wp_gf ⟨rfl, rfl⟩ rfl e2a e2b ?_
  refine wp_run 2 (pc' := 39) (lv' := [(0, .ref a0)]) (st' := [.int (xe1 + (i32 1)), .ref a0]) rfl ?_
  exact wp_pf ⟨rfl, rfl⟩ rfl (Or.inl rfl) e hk (fit_i _) (wp_weak (re_sb_nil _) K)
theorem B455_42 {SC : List Value} {d s : Nat} {h : re_H} {Q : Nat → Value → re_H → Prop} 
    (K : Q 1 (.int (i32 1)) h) : wp SC 455 d s 42 [] [] h Q := by
  refine wp_run 1 (pc' := 43) (lv' := []) (st' := [.int (i32 1)]) rfl ?_
  exact wp_retz ⟨rfl, rfl⟩ rfl (Or.inr rfl) K
set_option maxRecDepth 20000 in
theorem B456_0 {SC : List Value} {d s : Nat} {h : re_H} {Q : Nat → Value → re_H → Prop} {a0 : Nat} {x1 : Int32}
    {xe1 : Int32} (e2 : nb_fd h a0 7 8 (.int xe1)) (K1 : xe1 < (i32 2) → wp SC 456 d s 36 [] [] h Q) (K2 : ¬ xe1 < (i32 2) → wp SC 456 d s 8 [(0, .ref a0), (1, .int x1)] [] h Q) : wp SC 456 d s 0 [(0, .ref a0), (1, .int x1)] [] h Q := by
  refine wp_run 1 (pc' := 1) (lv' := [(0, .ref a0), (1, .int x1)]) (st' := [.ref a0]) rfl ?_
  obtain ⟨w2, e2a, e2b⟩ := e2
  refine wp_gf ⟨rfl, rfl⟩ rfl e2a e2b ?_
  refine wp_run 1 (pc' := 5) (lv' := [(0, .ref a0), (1, .int x1)]) (st' := [.int (i32 2), .int xe1]) rfl ?_
  exact wp_cmp ⟨rfl, rfl⟩ rfl (fun hc => wp_weak (re_sb_nil _) (K1 (ic1_lt hc))) (fun hc => wp_weak (re_sb_at rfl (re_sb_at rfl (re_sb_nil _))) (K2 (ic0_lt hc)))
set_option maxRecDepth 20000 in
theorem B456_8 {SC : List Value} {d s : Nat} {h : re_H} {Q : Nat → Value → re_H → Prop} {a0 : Nat} {x1 : Int32}
    {ae1 : Nat} (e2 : nb_fd h a0 7 7 (.ref ae1)) {xe3 : Int32} (e4 : nb_fd h a0 7 8 (.int xe3)) {ve5 : Value} (re5 : re_R ve5) (e6 : nb_ar h ae1 106 (xe3 - (i32 1)) (ve5)) (K1 : ve5 = .null → wp SC 456 d s 22 [(0, .ref a0), (1, .int x1)] [] h Q) (K2 : ∀ b7, ve5 = .ref b7 → wp SC 456 d s 36 [] [] h Q) : wp SC 456 d s 8 [(0, .ref a0), (1, .int x1)] [] h Q := by
  refine wp_run 1 (pc' := 9) (lv' := [(0, .ref a0), (1, .int x1)]) (st' := [.ref a0]) rfl ?_
  obtain ⟨w2, e2a, e2b⟩ := e2
  refine wp_gf ⟨rfl, rfl⟩ rfl e2a e2b ?_
  refine wp_run 1 (pc' := 13) (lv' := [(0, .ref a0), (1, .int x1)]) (st' := [.ref a0, .ref ae1]) rfl ?_
  obtain ⟨w4, e4a, e4b⟩ := e4
  refine wp_gf ⟨rfl, rfl⟩ rfl e4a e4b ?_
  refine wp_run 2 (pc' := 18) (lv' := [(0, .ref a0), (1, .int x1)]) (st' := [.int (xe3 - (i32 1)), .ref ae1]) rfl ?_
  obtain ⟨w6, i6, e6a, e6x, e6i, e6v⟩ := e6
  refine wp_aal ⟨rfl, rfl⟩ e6a ⟨by decide, by decide⟩ e6x e6i e6v ?_
  exact wp_ifnn ⟨rfl, rfl⟩ rfl re5 (fun bb hc => by subst hc; exact wp_weak (re_sb_nil _) (K2 bb rfl)) (fun hc => by subst hc; exact wp_weak (re_sb_at rfl (re_sb_at rfl (re_sb_nil _))) (K1 rfl))
set_option maxRecDepth 20000 in
theorem B456_22 {SC : List Value} {d s : Nat} {h : re_H} {Q : Nat → Value → re_H → Prop} {a0 : Nat} {x1 : Int32}
    {ae1 : Nat} (e2 : nb_fd h a0 7 7 (.ref ae1)) {xe3 : Int32} (e4 : nb_fd h a0 7 8 (.int xe3)) {ve5 : Value} (re5 : re_R ve5) (e6 : nb_ar h ae1 106 (xe3 - (i32 2)) (ve5)) (K1 : ve5 = .null → wp SC 456 d s 38 [(0, .ref a0), (1, .int x1)] [] h Q) (K2 : ∀ b7, ve5 = .ref b7 → wp SC 456 d s 36 [] [] h Q) : wp SC 456 d s 22 [(0, .ref a0), (1, .int x1)] [] h Q := by
  refine wp_run 1 (pc' := 23) (lv' := [(0, .ref a0), (1, .int x1)]) (st' := [.ref a0]) rfl ?_
  obtain ⟨w2, e2a, e2b⟩ := e2
  refine wp_gf ⟨rfl, rfl⟩ rfl e2a e2b ?_
  refine wp_run 1 (pc' := 27) (lv' := [(0, .ref a0), (1, .int x1)]) (st' := [.ref a0, .ref ae1]) rfl ?_
  obtain ⟨w4, e4a, e4b⟩ := e4
  refine wp_gf ⟨rfl, rfl⟩ rfl e4a e4b ?_
  refine wp_run 2 (pc' := 32) (lv' := [(0, .ref a0), (1, .int x1)]) (st' := [.int (xe3 - (i32 2)), .ref ae1]) rfl ?_
  obtain ⟨w6, i6, e6a, e6x, e6i, e6v⟩ := e6
  refine wp_aal ⟨rfl, rfl⟩ e6a ⟨by decide, by decide⟩ e6x e6i e6v ?_
  exact wp_ifn ⟨rfl, rfl⟩ rfl re5 (fun hc => by subst hc; exact wp_weak (re_sb_at rfl (re_sb_at rfl (re_sb_nil _))) (K1 rfl)) (fun bb hc => by subst hc; exact wp_weak (re_sb_nil _) (K2 bb rfl))
set_option maxRecDepth 20000 in
theorem B456_36 {SC : List Value} {d s : Nat} {h : re_H} {Q : Nat → Value → re_H → Prop} 
    (K : Q 1 (.int (i32 0)) h) : wp SC 456 d s 36 [] [] h Q := by
  refine wp_run 1 (pc' := 37) (lv' := []) (st' := [.int (i32 0)]) rfl ?_
  exact wp_retz ⟨rfl, rfl⟩ rfl (Or.inl rfl) K
set_option maxRecDepth 20000 in
theorem B456_38 {SC : List Value} {d s : Nat} {h : re_H} {Q : Nat → Value → re_H → Prop} {a0 : Nat} {x1 : Int32}
    {xe1 : Int32} (e2 : nb_fd h a0 7 8 (.int xe1)) {w : List Value} (e : re_hg h a0 = some (7, w)) (hk : 8 < w.length) (K : wp SC 456 d s 48 [(0, .ref a0), (1, .int x1)] [] (re_hw h a0 (7, w.set 8 (.int (xe1 - (i32 2))))) Q) : wp SC 456 d s 38 [(0, .ref a0), (1, .int x1)] [] h Q := by
  refine wp_run 2 (pc' := 40) (lv' := [(0, .ref a0), (1, .int x1)]) (st' := [.ref a0, .ref a0]) rfl ?_
  obtain ⟨w2, e2a, e2b⟩ := e2
  refine wp_gf ⟨rfl, rfl⟩ rfl e2a e2b ?_
  refine wp_run 2 (pc' := 45) (lv' := [(0, .ref a0), (1, .int x1)]) (st' := [.int (xe1 - (i32 2)), .ref a0]) rfl ?_
  exact wp_pf ⟨rfl, rfl⟩ rfl (Or.inl rfl) e hk (fit_i _) (wp_weak (re_sb_at rfl (re_sb_at rfl (re_sb_nil _))) K)
set_option maxRecDepth 20000 in
theorem B456_48 {SC : List Value} {d s : Nat} {h : re_H} {Q : Nat → Value → re_H → Prop} {a0 : Nat} {x1 : Int32}
    {ae1 : Nat} (e2 : nb_fd h a0 7 6 (.ref ae1)) {xe3 : Int32} (e4 : nb_fd h a0 7 8 (.int xe3)) {le5 : Int64} (e6 : nb_ar h ae1 101 xe3 (.long le5)) {ae7 : Nat} (e8 : nb_fd h a0 7 6 (.ref ae7)) {xe9 : Int32} (e10 : nb_fd h a0 7 8 (.int xe9)) {le11 : Int64} (e12 : nb_ar h ae7 101 (xe9 + (i32 1)) (.long le11)) (hx : x1.toInt < 0 ∨ 2 < x1.toInt) (K : wp SC 456 d s 130 [(0, .ref a0), (2, .long le5), (4, .long le11)] [] h Q) : wp SC 456 d s 48 [(0, .ref a0), (1, .int x1)] [] h Q := by
  refine wp_run 1 (pc' := 49) (lv' := [(0, .ref a0), (1, .int x1)]) (st' := [.ref a0]) rfl ?_
  obtain ⟨w2, e2a, e2b⟩ := e2
  refine wp_gf ⟨rfl, rfl⟩ rfl e2a e2b ?_
  refine wp_run 1 (pc' := 53) (lv' := [(0, .ref a0), (1, .int x1)]) (st' := [.ref a0, .ref ae1]) rfl ?_
  obtain ⟨w4, e4a, e4b⟩ := e4
  refine wp_gf ⟨rfl, rfl⟩ rfl e4a e4b ?_
  obtain ⟨w6, i6, e6a, e6x, e6i, e6v⟩ := e6
  refine wp_lal ⟨rfl, rfl⟩ e6a rfl e6x e6i e6v ?_
  refine wp_run 2 (pc' := 59) (lv' := [(2, .long le5), (0, .ref a0), (1, .int x1)]) (st' := [.ref a0]) rfl ?_
  obtain ⟨w8, e8a, e8b⟩ := e8
  refine wp_gf ⟨rfl, rfl⟩ rfl e8a e8b ?_
  refine wp_run 1 (pc' := 63) (lv' := [(2, .long le5), (0, .ref a0), (1, .int x1)]) (st' := [.ref a0, .ref ae7]) rfl ?_
  obtain ⟨w10, e10a, e10b⟩ := e10
  refine wp_gf ⟨rfl, rfl⟩ rfl e10a e10b ?_
  refine wp_run 2 (pc' := 68) (lv' := [(2, .long le5), (0, .ref a0), (1, .int x1)]) (st' := [.int (xe9 + (i32 1)), .ref ae7]) rfl ?_
  obtain ⟨w12, i12, e12a, e12x, e12i, e12v⟩ := e12
  refine wp_lal ⟨rfl, rfl⟩ e12a rfl e12x e12i e12v ?_
  refine wp_run 2 (pc' := 72) (lv' := [(4, .long le11), (2, .long le5), (0, .ref a0), (1, .int x1)]) (st' := [.int x1]) rfl ?_
  exact wp_tsd ⟨rfl, rfl⟩ rfl hx (wp_weak (re_sb_at rfl (re_sb_at rfl (re_sb_at rfl (re_sb_nil _)))) K)
set_option maxRecDepth 20000 in
theorem B456_48_0 {SC : List Value} {d s : Nat} {h : re_H} {Q : Nat → Value → re_H → Prop} {a0 : Nat}
    {ae1 : Nat} (e2 : nb_fd h a0 7 6 (.ref ae1)) {xe3 : Int32} (e4 : nb_fd h a0 7 8 (.int xe3)) {le5 : Int64} (e6 : nb_ar h ae1 101 xe3 (.long le5)) {ae7 : Nat} (e8 : nb_fd h a0 7 6 (.ref ae7)) {xe9 : Int32} (e10 : nb_fd h a0 7 8 (.int xe9)) {le11 : Int64} (e12 : nb_ar h ae7 101 (xe9 + (i32 1)) (.long le11)) (K : wp SC 456 d s 100 [(0, .ref a0), (2, .long le5), (4, .long le11)] [] h Q) : wp SC 456 d s 48 [(0, .ref a0), (1, .int (i32 0))] [] h Q := by
  refine wp_run 1 (pc' := 49) (lv' := [(0, .ref a0), (1, .int (i32 0))]) (st' := [.ref a0]) rfl ?_
  obtain ⟨w2, e2a, e2b⟩ := e2
  refine wp_gf ⟨rfl, rfl⟩ rfl e2a e2b ?_
  refine wp_run 1 (pc' := 53) (lv' := [(0, .ref a0), (1, .int (i32 0))]) (st' := [.ref a0, .ref ae1]) rfl ?_
  obtain ⟨w4, e4a, e4b⟩ := e4
  refine wp_gf ⟨rfl, rfl⟩ rfl e4a e4b ?_
  obtain ⟨w6, i6, e6a, e6x, e6i, e6v⟩ := e6
  refine wp_lal ⟨rfl, rfl⟩ e6a rfl e6x e6i e6v ?_
  refine wp_run 2 (pc' := 59) (lv' := [(2, .long le5), (0, .ref a0), (1, .int (i32 0))]) (st' := [.ref a0]) rfl ?_
  obtain ⟨w8, e8a, e8b⟩ := e8
  refine wp_gf ⟨rfl, rfl⟩ rfl e8a e8b ?_
  refine wp_run 1 (pc' := 63) (lv' := [(2, .long le5), (0, .ref a0), (1, .int (i32 0))]) (st' := [.ref a0, .ref ae7]) rfl ?_
  obtain ⟨w10, e10a, e10b⟩ := e10
  refine wp_gf ⟨rfl, rfl⟩ rfl e10a e10b ?_
  refine wp_run 2 (pc' := 68) (lv' := [(2, .long le5), (0, .ref a0), (1, .int (i32 0))]) (st' := [.int (xe9 + (i32 1)), .ref ae7]) rfl ?_
  obtain ⟨w12, i12, e12a, e12x, e12i, e12v⟩ := e12
  refine wp_lal ⟨rfl, rfl⟩ e12a rfl e12x e12i e12v ?_
  refine wp_run 2 (pc' := 72) (lv' := [(4, .long le11), (2, .long le5), (0, .ref a0), (1, .int (i32 0))]) (st' := [.int (i32 0)]) rfl ?_
  exact wp_pure (pc' := 100) (lv' := [(4, .long le11), (2, .long le5), (0, .ref a0), (1, .int (i32 0))]) (st' := []) ⟨rfl, rfl⟩ rfl (wp_weak (re_sb_at rfl (re_sb_at rfl (re_sb_at rfl (re_sb_nil _)))) K)
set_option maxRecDepth 20000 in
theorem B456_48_1 {SC : List Value} {d s : Nat} {h : re_H} {Q : Nat → Value → re_H → Prop} {a0 : Nat}
    {ae1 : Nat} (e2 : nb_fd h a0 7 6 (.ref ae1)) {xe3 : Int32} (e4 : nb_fd h a0 7 8 (.int xe3)) {le5 : Int64} (e6 : nb_ar h ae1 101 xe3 (.long le5)) {ae7 : Nat} (e8 : nb_fd h a0 7 6 (.ref ae7)) {xe9 : Int32} (e10 : nb_fd h a0 7 8 (.int xe9)) {le11 : Int64} (e12 : nb_ar h ae7 101 (xe9 + (i32 1)) (.long le11)) (K : wp SC 456 d s 110 [(0, .ref a0), (2, .long le5), (4, .long le11)] [] h Q) : wp SC 456 d s 48 [(0, .ref a0), (1, .int (i32 1))] [] h Q := by
  refine wp_run 1 (pc' := 49) (lv' := [(0, .ref a0), (1, .int (i32 1))]) (st' := [.ref a0]) rfl ?_
  obtain ⟨w2, e2a, e2b⟩ := e2
  refine wp_gf ⟨rfl, rfl⟩ rfl e2a e2b ?_
  refine wp_run 1 (pc' := 53) (lv' := [(0, .ref a0), (1, .int (i32 1))]) (st' := [.ref a0, .ref ae1]) rfl ?_
  obtain ⟨w4, e4a, e4b⟩ := e4
  refine wp_gf ⟨rfl, rfl⟩ rfl e4a e4b ?_
  obtain ⟨w6, i6, e6a, e6x, e6i, e6v⟩ := e6
  refine wp_lal ⟨rfl, rfl⟩ e6a rfl e6x e6i e6v ?_
  refine wp_run 2 (pc' := 59) (lv' := [(2, .long le5), (0, .ref a0), (1, .int (i32 1))]) (st' := [.ref a0]) rfl ?_
  obtain ⟨w8, e8a, e8b⟩ := e8
  refine wp_gf ⟨rfl, rfl⟩ rfl e8a e8b ?_
  refine wp_run 1 (pc' := 63) (lv' := [(2, .long le5), (0, .ref a0), (1, .int (i32 1))]) (st' := [.ref a0, .ref ae7]) rfl ?_
  obtain ⟨w10, e10a, e10b⟩ := e10
  refine wp_gf ⟨rfl, rfl⟩ rfl e10a e10b ?_
  refine wp_run 2 (pc' := 68) (lv' := [(2, .long le5), (0, .ref a0), (1, .int (i32 1))]) (st' := [.int (xe9 + (i32 1)), .ref ae7]) rfl ?_
  obtain ⟨w12, i12, e12a, e12x, e12i, e12v⟩ := e12
  refine wp_lal ⟨rfl, rfl⟩ e12a rfl e12x e12i e12v ?_
  refine wp_run 2 (pc' := 72) (lv' := [(4, .long le11), (2, .long le5), (0, .ref a0), (1, .int (i32 1))]) (st' := [.int (i32 1)]) rfl ?_
  exact wp_pure (pc' := 110) (lv' := [(4, .long le11), (2, .long le5), (0, .ref a0), (1, .int (i32 1))]) (st' := []) ⟨rfl, rfl⟩ rfl (wp_weak (re_sb_at rfl (re_sb_at rfl (re_sb_at rfl (re_sb_nil _)))) K)
set_option maxRecDepth 20000 in
theorem B456_48_2 {SC : List Value} {d s : Nat} {h : re_H} {Q : Nat → Value → re_H → Prop} {a0 : Nat}
    {ae1 : Nat} (e2 : nb_fd h a0 7 6 (.ref ae1)) {xe3 : Int32} (e4 : nb_fd h a0 7 8 (.int xe3)) {le5 : Int64} (e6 : nb_ar h ae1 101 xe3 (.long le5)) {ae7 : Nat} (e8 : nb_fd h a0 7 6 (.ref ae7)) {xe9 : Int32} (e10 : nb_fd h a0 7 8 (.int xe9)) {le11 : Int64} (e12 : nb_ar h ae7 101 (xe9 + (i32 1)) (.long le11)) (K : wp SC 456 d s 120 [(0, .ref a0), (2, .long le5), (4, .long le11)] [] h Q) : wp SC 456 d s 48 [(0, .ref a0), (1, .int (i32 2))] [] h Q := by
  refine wp_run 1 (pc' := 49) (lv' := [(0, .ref a0), (1, .int (i32 2))]) (st' := [.ref a0]) rfl ?_
  obtain ⟨w2, e2a, e2b⟩ := e2
  refine wp_gf ⟨rfl, rfl⟩ rfl e2a e2b ?_
  refine wp_run 1 (pc' := 53) (lv' := [(0, .ref a0), (1, .int (i32 2))]) (st' := [.ref a0, .ref ae1]) rfl ?_
  obtain ⟨w4, e4a, e4b⟩ := e4
  refine wp_gf ⟨rfl, rfl⟩ rfl e4a e4b ?_
  obtain ⟨w6, i6, e6a, e6x, e6i, e6v⟩ := e6
  refine wp_lal ⟨rfl, rfl⟩ e6a rfl e6x e6i e6v ?_
  refine wp_run 2 (pc' := 59) (lv' := [(2, .long le5), (0, .ref a0), (1, .int (i32 2))]) (st' := [.ref a0]) rfl ?_
  obtain ⟨w8, e8a, e8b⟩ := e8
  refine wp_gf ⟨rfl, rfl⟩ rfl e8a e8b ?_
  refine wp_run 1 (pc' := 63) (lv' := [(2, .long le5), (0, .ref a0), (1, .int (i32 2))]) (st' := [.ref a0, .ref ae7]) rfl ?_
  obtain ⟨w10, e10a, e10b⟩ := e10
  refine wp_gf ⟨rfl, rfl⟩ rfl e10a e10b ?_
  refine wp_run 2 (pc' := 68) (lv' := [(2, .long le5), (0, .ref a0), (1, .int (i32 2))]) (st' := [.int (xe9 + (i32 1)), .ref ae7]) rfl ?_
  obtain ⟨w12, i12, e12a, e12x, e12i, e12v⟩ := e12
  refine wp_lal ⟨rfl, rfl⟩ e12a rfl e12x e12i e12v ?_
  refine wp_run 2 (pc' := 72) (lv' := [(4, .long le11), (2, .long le5), (0, .ref a0), (1, .int (i32 2))]) (st' := [.int (i32 2)]) rfl ?_
  exact wp_pure (pc' := 120) (lv' := [(4, .long le11), (2, .long le5), (0, .ref a0), (1, .int (i32 2))]) (st' := []) ⟨rfl, rfl⟩ rfl (wp_weak (re_sb_at rfl (re_sb_at rfl (re_sb_at rfl (re_sb_nil _)))) K)
set_option maxRecDepth 20000 in
theorem B456_100 {SC : List Value} {d s : Nat} {h : re_H} {Q : Nat → Value → re_H → Prop} {a0 : Nat} {l2 : Int64} {l4 : Int64}
    {c : Nat} {w : List Value} (eg : re_hg h a0 = some (c, w)) (ec : c = 7) (K : wp SC 455 d 0 0 [(0, .ref a0), (1, .long (l2 + l4)), (3, .null)] [] h (wp_ret SC 456 (d + 1) s 109 [] [] Q)) : wp SC 456 (d + 1) s 100 [(0, .ref a0), (2, .long l2), (4, .long l4)] [] h Q := by
  refine wp_run 5 (pc' := 106) (lv' := [(0, .ref a0), (2, .long l2), (4, .long l4)]) (st' := [.null, .long (l2 + l4), .ref a0]) rfl ?_
  have eA : lv_args 0 (.ref a0 :: [.null, .long (l2 + l4)].reverse) = [(0, .ref a0), (1, .long (l2 + l4)), (3, .null)] := by simp [lv_args, vc_i, vc_l, vc_r, vc_n, vc_a]
  refine wp_callV (ar := [.null, .long (l2 + l4)]) (rest := []) (s1 := 0) (s2 := s) (d' := d) ⟨rfl, rfl⟩ rfl (Or.inl rfl)  (by simp [re_cat, vc_i, vc_l, vc_r, vc_n, vc_a]) (by rw [show re_cat (.ref a0 :: [.null, .long (l2 + l4)].reverse) = 4 from by simp [re_cat, vc_i, vc_l, vc_r, vc_n, vc_a]]; decide) (by decide) rfl eg ec rfl (Nat.le_of_eq (Nat.zero_add s)) ?_
  rw [eA]
  exact wp_mono K (fun k v h' z => wp_ret_weak (re_sb_nil _) z)
set_option maxRecDepth 20000 in
theorem B456_109 {SC : List Value} {d s : Nat} {h : re_H} {Q : Nat → Value → re_H → Prop} {xs0 : Int32}
    (hz : xs0 = 0 ∨ xs0 = 1) (K : Q 1 (.int xs0) h) : wp SC 456 d s 109 [] [.int xs0] h Q := by
  exact wp_retz ⟨rfl, rfl⟩ rfl hz K
set_option maxRecDepth 20000 in
theorem B456_110 {SC : List Value} {d s : Nat} {h : re_H} {Q : Nat → Value → re_H → Prop} {a0 : Nat} {l2 : Int64} {l4 : Int64}
    {c : Nat} {w : List Value} (eg : re_hg h a0 = some (c, w)) (ec : c = 7) (K : wp SC 455 d 0 0 [(0, .ref a0), (1, .long (l2 - l4)), (3, .null)] [] h (wp_ret SC 456 (d + 1) s 119 [] [] Q)) : wp SC 456 (d + 1) s 110 [(0, .ref a0), (2, .long l2), (4, .long l4)] [] h Q := by
  refine wp_run 5 (pc' := 116) (lv' := [(0, .ref a0), (2, .long l2), (4, .long l4)]) (st' := [.null, .long (l2 - l4), .ref a0]) rfl ?_
  have eA : lv_args 0 (.ref a0 :: [.null, .long (l2 - l4)].reverse) = [(0, .ref a0), (1, .long (l2 - l4)), (3, .null)] := by simp [lv_args, vc_i, vc_l, vc_r, vc_n, vc_a]
  refine wp_callV (ar := [.null, .long (l2 - l4)]) (rest := []) (s1 := 0) (s2 := s) (d' := d) ⟨rfl, rfl⟩ rfl (Or.inl rfl)  (by simp [re_cat, vc_i, vc_l, vc_r, vc_n, vc_a]) (by rw [show re_cat (.ref a0 :: [.null, .long (l2 - l4)].reverse) = 4 from by simp [re_cat, vc_i, vc_l, vc_r, vc_n, vc_a]]; decide) (by decide) rfl eg ec rfl (Nat.le_of_eq (Nat.zero_add s)) ?_
  rw [eA]
  exact wp_mono K (fun k v h' z => wp_ret_weak (re_sb_nil _) z)
set_option maxRecDepth 20000 in
theorem B456_119 {SC : List Value} {d s : Nat} {h : re_H} {Q : Nat → Value → re_H → Prop} {xs0 : Int32}
    (hz : xs0 = 0 ∨ xs0 = 1) (K : Q 1 (.int xs0) h) : wp SC 456 d s 119 [] [.int xs0] h Q := by
  exact wp_retz ⟨rfl, rfl⟩ rfl hz K
set_option maxRecDepth 20000 in
theorem B456_120 {SC : List Value} {d s : Nat} {h : re_H} {Q : Nat → Value → re_H → Prop} {a0 : Nat} {l2 : Int64} {l4 : Int64}
    {c : Nat} {w : List Value} (eg : re_hg h a0 = some (c, w)) (ec : c = 7) (K : wp SC 455 d 0 0 [(0, .ref a0), (1, .long (l2 * l4)), (3, .null)] [] h (wp_ret SC 456 (d + 1) s 129 [] [] Q)) : wp SC 456 (d + 1) s 120 [(0, .ref a0), (2, .long l2), (4, .long l4)] [] h Q := by
  refine wp_run 5 (pc' := 126) (lv' := [(0, .ref a0), (2, .long l2), (4, .long l4)]) (st' := [.null, .long (l2 * l4), .ref a0]) rfl ?_
  have eA : lv_args 0 (.ref a0 :: [.null, .long (l2 * l4)].reverse) = [(0, .ref a0), (1, .long (l2 * l4)), (3, .null)] := by simp [lv_args, vc_i, vc_l, vc_r, vc_n, vc_a]
  refine wp_callV (ar := [.null, .long (l2 * l4)]) (rest := []) (s1 := 0) (s2 := s) (d' := d) ⟨rfl, rfl⟩ rfl (Or.inl rfl)  (by simp [re_cat, vc_i, vc_l, vc_r, vc_n, vc_a]) (by rw [show re_cat (.ref a0 :: [.null, .long (l2 * l4)].reverse) = 4 from by simp [re_cat, vc_i, vc_l, vc_r, vc_n, vc_a]]; decide) (by decide) rfl eg ec rfl (Nat.le_of_eq (Nat.zero_add s)) ?_
  rw [eA]
  exact wp_mono K (fun k v h' z => wp_ret_weak (re_sb_nil _) z)
set_option maxRecDepth 20000 in
theorem B456_129 {SC : List Value} {d s : Nat} {h : re_H} {Q : Nat → Value → re_H → Prop} {xs0 : Int32}
    (hz : xs0 = 0 ∨ xs0 = 1) (K : Q 1 (.int xs0) h) : wp SC 456 d s 129 [] [.int xs0] h Q := by
  exact wp_retz ⟨rfl, rfl⟩ rfl hz K
set_option maxRecDepth 20000 in
theorem B456_130 {SC : List Value} {d s : Nat} {h : re_H} {Q : Nat → Value → re_H → Prop} {a0 : Nat} {l2 : Int64} {l4 : Int64}
    (K1 : ¬ l2 < l4 → wp SC 456 d s 142 [] [.ref a0] h Q) (K2 : l2 < l4 → wp SC 456 d s 138 [] [.ref a0] h Q) : wp SC 456 d s 130 [(0, .ref a0), (2, .long l2), (4, .long l4)] [] h Q := by
  refine wp_run 4 (pc' := 135) (lv' := [(0, .ref a0), (2, .long l2), (4, .long l4)]) (st' := [.int (lg_cmp l2 l4), .ref a0]) rfl ?_
  exact wp_if ⟨rfl, rfl⟩ rfl (fun hc => wp_weak (re_sb_nil _) (K1 (lc1_ge hc))) (fun hc => wp_weak (re_sb_nil _) (K2 (lc0_ge hc)))
set_option maxRecDepth 20000 in
theorem B456_138 {SC : List Value} {d s : Nat} {h : re_H} {Q : Nat → Value → re_H → Prop} {as0 : Nat}
    (K : wp SC 456 d s 143 [] [.long (1), .ref as0] h Q) : wp SC 456 d s 138 [] [.ref as0] h Q := by
  refine wp_run 2 (pc' := 143) (lv' := []) (st' := [.long (1), .ref as0]) rfl ?_
  exact wp_weak (re_sb_nil _) K
set_option maxRecDepth 20000 in
theorem B456_142 {SC : List Value} {d s : Nat} {h : re_H} {Q : Nat → Value → re_H → Prop} {as0 : Nat}
    (K : wp SC 456 d s 143 [] [.long (0), .ref as0] h Q) : wp SC 456 d s 142 [] [.ref as0] h Q := by
  refine wp_run 1 (pc' := 143) (lv' := []) (st' := [.long (0), .ref as0]) rfl ?_
  exact wp_weak (re_sb_nil _) K
set_option maxRecDepth 20000 in
theorem B456_143 {SC : List Value} {d s : Nat} {h : re_H} {Q : Nat → Value → re_H → Prop} {ls0 : Int64} {as1 : Nat}
    {c : Nat} {w : List Value} (eg : re_hg h as1 = some (c, w)) (ec : c = 7) (K : wp SC 455 d 0 0 [(0, .ref as1), (1, .long ls0), (3, .null)] [] h (wp_ret SC 456 (d + 1) s 147 [] [] Q)) : wp SC 456 (d + 1) s 143 [] [.long ls0, .ref as1] h Q := by
  refine wp_run 1 (pc' := 144) (lv' := []) (st' := [.null, .long ls0, .ref as1]) rfl ?_
  have eA : lv_args 0 (.ref as1 :: [.null, .long ls0].reverse) = [(0, .ref as1), (1, .long ls0), (3, .null)] := by simp [lv_args, vc_i, vc_l, vc_r, vc_n, vc_a]
  refine wp_callV (ar := [.null, .long ls0]) (rest := []) (s1 := 0) (s2 := s) (d' := d) ⟨rfl, rfl⟩ rfl (Or.inl rfl)  (by simp [re_cat, vc_i, vc_l, vc_r, vc_n, vc_a]) (by rw [show re_cat (.ref as1 :: [.null, .long ls0].reverse) = 4 from by simp [re_cat, vc_i, vc_l, vc_r, vc_n, vc_a]]; decide) (by decide) rfl eg ec rfl (Nat.le_of_eq (Nat.zero_add s)) ?_
  rw [eA]
  exact wp_mono K (fun k v h' z => wp_ret_weak (re_sb_nil _) z)
set_option maxRecDepth 20000 in
theorem B456_147 {SC : List Value} {d s : Nat} {h : re_H} {Q : Nat → Value → re_H → Prop} {xs0 : Int32}
    (hz : xs0 = 0 ∨ xs0 = 1) (K : Q 1 (.int xs0) h) : wp SC 456 d s 147 [] [.int xs0] h Q := by
  exact wp_retz ⟨rfl, rfl⟩ rfl hz K
theorem B457_0 {SC : List Value} {d s : Nat} {h : re_H} {Q : Nat → Value → re_H → Prop} {a0 : Nat} {v1 : Value} (r1 : re_R v1) {v2 : Value} (r2 : re_R v2)
    {xe1 : Int32} (e2 : nb_fd h a0 7 8 (.int xe1)) (K1 : xe1 < (i32 1) → wp SC 457 d s 22 [] [] h Q) (K2 : ¬ xe1 < (i32 1) → wp SC 457 d s 8 [(0, .ref a0), (1, v1), (2, v2)] [] h Q) : wp SC 457 d s 0 [(0, .ref a0), (1, v1), (2, v2)] [] h Q := by
  refine wp_run 1 (pc' := 1) (lv' := [(0, .ref a0), (1, v1), (2, v2)]) (st' := [.ref a0]) rfl ?_
  obtain ⟨w2, e2a, e2b⟩ := e2
  refine wp_gf ⟨rfl, rfl⟩ rfl e2a e2b ?_
  refine wp_run 1 (pc' := 5) (lv' := [(0, .ref a0), (1, v1), (2, v2)]) (st' := [.int (i32 1), .int xe1]) rfl ?_
  exact wp_cmp ⟨rfl, rfl⟩ rfl (fun hc => wp_weak (re_sb_nil _) (K1 (ic1_lt hc))) (fun hc => wp_weak (re_sb_at rfl (re_sb_at rfl (re_sb_at rfl (re_sb_nil _)))) (K2 (ic0_lt hc)))
theorem B457_8 {SC : List Value} {d s : Nat} {h : re_H} {Q : Nat → Value → re_H → Prop} {a0 : Nat} {v1 : Value} (r1 : re_R v1) {v2 : Value} (r2 : re_R v2)
    {ae1 : Nat} (e2 : nb_fd h a0 7 7 (.ref ae1)) {xe3 : Int32} (e4 : nb_fd h a0 7 8 (.int xe3)) {ve5 : Value} (re5 : re_R ve5) (e6 : nb_ar h ae1 106 (xe3 - (i32 1)) (ve5)) (K1 : ve5 = .null → wp SC 457 d s 24 [(0, .ref a0), (1, v1), (2, v2)] [] h Q) (K2 : ∀ b7, ve5 = .ref b7 → wp SC 457 d s 22 [] [] h Q) : wp SC 457 d s 8 [(0, .ref a0), (1, v1), (2, v2)] [] h Q := by
  refine wp_run 1 (pc' := 9) (lv' := [(0, .ref a0), (1, v1), (2, v2)]) (st' := [.ref a0]) rfl ?_
  obtain ⟨w2, e2a, e2b⟩ := e2
  refine wp_gf ⟨rfl, rfl⟩ rfl e2a e2b ?_
  refine wp_run 1 (pc' := 13) (lv' := [(0, .ref a0), (1, v1), (2, v2)]) (st' := [.ref a0, .ref ae1]) rfl ?_
  obtain ⟨w4, e4a, e4b⟩ := e4
  refine wp_gf ⟨rfl, rfl⟩ rfl e4a e4b ?_
  refine wp_run 2 (pc' := 18) (lv' := [(0, .ref a0), (1, v1), (2, v2)]) (st' := [.int (xe3 - (i32 1)), .ref ae1]) rfl ?_
  obtain ⟨w6, i6, e6a, e6x, e6i, e6v⟩ := e6
  refine wp_aal ⟨rfl, rfl⟩ e6a ⟨by decide, by decide⟩ e6x e6i e6v ?_
  exact wp_ifn ⟨rfl, rfl⟩ rfl re5 (fun hc => by subst hc; exact wp_weak (re_sb_at rfl (re_sb_at rfl (re_sb_at rfl (re_sb_nil _)))) (K1 rfl)) (fun bb hc => by subst hc; exact wp_weak (re_sb_nil _) (K2 bb rfl))
theorem B457_22 {SC : List Value} {d s : Nat} {h : re_H} {Q : Nat → Value → re_H → Prop} 
    (K : Q 1 (.int (i32 0)) h) : wp SC 457 d s 22 [] [] h Q := by
  refine wp_run 1 (pc' := 23) (lv' := []) (st' := [.int (i32 0)]) rfl ?_
  exact wp_retz ⟨rfl, rfl⟩ rfl (Or.inl rfl) K
theorem B457_24 {SC : List Value} {d s : Nat} {h : re_H} {Q : Nat → Value → re_H → Prop} {a0 : Nat} {v1 : Value} (r1 : re_R v1) {v2 : Value} (r2 : re_R v2)
    {xe1 : Int32} (e2 : nb_fd h a0 7 8 (.int xe1)) {w : List Value} (e : re_hg h a0 = some (7, w)) (hk : 8 < w.length) (K : wp SC 457 d s 34 [(0, .ref a0), (1, v1), (2, v2)] [] (re_hw h a0 (7, w.set 8 (.int (xe1 - (i32 1))))) Q) : wp SC 457 d s 24 [(0, .ref a0), (1, v1), (2, v2)] [] h Q := by
  refine wp_run 2 (pc' := 26) (lv' := [(0, .ref a0), (1, v1), (2, v2)]) (st' := [.ref a0, .ref a0]) rfl ?_
  obtain ⟨w2, e2a, e2b⟩ := e2
  refine wp_gf ⟨rfl, rfl⟩ rfl e2a e2b ?_
  refine wp_run 2 (pc' := 31) (lv' := [(0, .ref a0), (1, v1), (2, v2)]) (st' := [.int (xe1 - (i32 1)), .ref a0]) rfl ?_
  exact wp_pf ⟨rfl, rfl⟩ rfl (Or.inl rfl) e hk (fit_i _) (wp_weak (re_sb_at rfl (re_sb_at rfl (re_sb_at rfl (re_sb_nil _)))) K)
theorem B457_34 {SC : List Value} {d s : Nat} {h : re_H} {Q : Nat → Value → re_H → Prop} {a0 : Nat} {v1 : Value} (r1 : re_R v1) {v2 : Value} (r2 : re_R v2)
    {ae1 : Nat} (e2 : nb_fd h a0 7 6 (.ref ae1)) {xe3 : Int32} (e4 : nb_fd h a0 7 8 (.int xe3)) {le5 : Int64} (e6 : nb_ar h ae1 101 xe3 (.long le5)) (K1 : le5 = (0) → wp SC 457 d s 56 [(1, v1), (2, v2)] [.ref a0] h Q) (K2 : ¬ le5 = (0) → wp SC 457 d s 49 [(1, v1), (2, v2)] [.ref a0] h Q) : wp SC 457 d s 34 [(0, .ref a0), (1, v1), (2, v2)] [] h Q := by
  refine wp_run 2 (pc' := 36) (lv' := [(0, .ref a0), (1, v1), (2, v2)]) (st' := [.ref a0, .ref a0]) rfl ?_
  obtain ⟨w2, e2a, e2b⟩ := e2
  refine wp_gf ⟨rfl, rfl⟩ rfl e2a e2b ?_
  refine wp_run 1 (pc' := 40) (lv' := [(0, .ref a0), (1, v1), (2, v2)]) (st' := [.ref a0, .ref ae1, .ref a0]) rfl ?_
  obtain ⟨w4, e4a, e4b⟩ := e4
  refine wp_gf ⟨rfl, rfl⟩ rfl e4a e4b ?_
  obtain ⟨w6, i6, e6a, e6x, e6i, e6v⟩ := e6
  refine wp_lal ⟨rfl, rfl⟩ e6a rfl e6x e6i e6v ?_
  refine wp_run 2 (pc' := 46) (lv' := [(0, .ref a0), (1, v1), (2, v2)]) (st' := [.int (lg_cmp le5 (0)), .ref a0]) rfl ?_
  exact wp_if ⟨rfl, rfl⟩ rfl (fun hc => wp_weak (re_sb_at rfl (re_sb_at rfl (re_sb_nil _))) (K1 (lc1_eq hc))) (fun hc => wp_weak (re_sb_at rfl (re_sb_at rfl (re_sb_nil _))) (K2 (lc0_eq hc)))
theorem B457_49 {SC : List Value} {d s : Nat} {h : re_H} {Q : Nat → Value → re_H → Prop} {v1 : Value} (r1 : re_R v1) {v2 : Value} (r2 : re_R v2) {as0 : Nat}
    {b1 : Nat} (n1 : v1 = .ref b1) {ve2 : Value} (re2 : re_R ve2) (e3 : nb_fd h b1 9 4 (ve2)) (K : wp SC 457 d s 60 [(2, v2)] [ve2, .ref as0] h Q) : wp SC 457 d s 49 [(1, v1), (2, v2)] [.ref as0] h Q := by
  refine wp_alR (ins := .aload_n 1) (k := 1) (pc' := 50) ⟨rfl, rfl⟩ (Or.inr ⟨_, rfl, rfl, rfl⟩) rfl r1 ?_
  subst n1
  obtain ⟨w3, e3a, e3b⟩ := e3
  refine wp_gf ⟨rfl, rfl⟩ rfl e3a e3b ?_
  refine wp_run 1 (pc' := 60) (lv' := [(1, .ref b1), (2, v2)]) (st' := [ve2, .ref as0]) rfl ?_
  exact wp_weak (re_sb_at rfl (re_sb_nil _)) K
theorem B457_56 {SC : List Value} {d s : Nat} {h : re_H} {Q : Nat → Value → re_H → Prop} {v1 : Value} (r1 : re_R v1) {v2 : Value} (r2 : re_R v2) {as0 : Nat}
    {b1 : Nat} (n1 : v1 = .ref b1) {ve2 : Value} (re2 : re_R ve2) (e3 : nb_fd h b1 9 5 (ve2)) (K : wp SC 457 d s 60 [(2, v2)] [ve2, .ref as0] h Q) : wp SC 457 d s 56 [(1, v1), (2, v2)] [.ref as0] h Q := by
  refine wp_alR (ins := .aload_n 1) (k := 1) (pc' := 57) ⟨rfl, rfl⟩ (Or.inr ⟨_, rfl, rfl, rfl⟩) rfl r1 ?_
  subst n1
  obtain ⟨w3, e3a, e3b⟩ := e3
  refine wp_gf ⟨rfl, rfl⟩ rfl e3a e3b ?_
  exact wp_weak (re_sb_at rfl (re_sb_nil _)) K
theorem B457_60 {SC : List Value} {d s : Nat} {h : re_H} {Q : Nat → Value → re_H → Prop} {v2 : Value} (r2 : re_R v2) {vs0 : Value} (rs0 : re_R vs0) {as1 : Nat}
    {c : Nat} {w : List Value} (eg : re_hg h as1 = some (c, w)) (ec : c = 7) (K : wp SC 452 d 0 0 [(0, .ref as1), (1, vs0), (2, v2), (3, .int (i32 0))] [] h (wp_ret SC 457 (d + 1) s 65 [] [] Q)) : wp SC 457 (d + 1) s 60 [(2, v2)] [vs0, .ref as1] h Q := by
  refine wp_alR (ins := .aload_n 2) (k := 2) (pc' := 61) ⟨rfl, rfl⟩ (Or.inr ⟨_, rfl, rfl, rfl⟩) rfl r2 ?_
  refine wp_run 1 (pc' := 62) (lv' := [(2, v2)]) (st' := [.int (i32 0), v2, vs0, .ref as1]) rfl ?_
  have eA : lv_args 0 (.ref as1 :: [.int (i32 0), v2, vs0].reverse) = [(0, .ref as1), (1, vs0), (2, v2), (3, .int (i32 0))] := by simp [lv_args, vc_i, vc_l, vc_r, vc_n, vc_a, re_R_cat r2, re_R_cat rs0]
  refine wp_callV (ar := [.int (i32 0), v2, vs0]) (rest := []) (s1 := 0) (s2 := s) (d' := d) ⟨rfl, rfl⟩ rfl (Or.inl rfl)  (by simp [re_cat, vc_i, vc_l, vc_r, vc_n, vc_a]) (by rw [show re_cat (.ref as1 :: [.int (i32 0), v2, vs0].reverse) = 4 from by simp [re_cat, vc_i, vc_l, vc_r, vc_n, vc_a, re_R_cat r2, re_R_cat rs0]]; decide) (by decide) rfl eg ec rfl (Nat.le_of_eq (Nat.zero_add s)) ?_
  rw [eA]
  exact wp_mono K (fun k v h' z => wp_ret_weak (re_sb_nil _) z)
theorem B457_65 {SC : List Value} {d s : Nat} {h : re_H} {Q : Nat → Value → re_H → Prop} 
    (K : Q 1 (.int (i32 1)) h) : wp SC 457 d s 65 [] [] h Q := by
  refine wp_run 1 (pc' := 66) (lv' := []) (st' := [.int (i32 1)]) rfl ?_
  exact wp_retz ⟨rfl, rfl⟩ rfl (Or.inr rfl) K
theorem B458_0 {SC : List Value} {d s : Nat} {h : re_H} {Q : Nat → Value → re_H → Prop} {a0 : Nat} {v1 : Value} (r1 : re_R v1) {v2 : Value} (r2 : re_R v2)
    {xe1 : Int32} (e2 : nb_fd h a0 7 8 (.int xe1)) (K1 : ¬ xe1 < (i32 1) → wp SC 458 d s 10 [(0, .ref a0), (1, v1), (2, v2)] [] h Q) (K2 : xe1 < (i32 1) → wp SC 458 d s 8 [] [] h Q) : wp SC 458 d s 0 [(0, .ref a0), (1, v1), (2, v2)] [] h Q := by
  refine wp_run 1 (pc' := 1) (lv' := [(0, .ref a0), (1, v1), (2, v2)]) (st' := [.ref a0]) rfl ?_
  obtain ⟨w2, e2a, e2b⟩ := e2
  refine wp_gf ⟨rfl, rfl⟩ rfl e2a e2b ?_
  refine wp_run 1 (pc' := 5) (lv' := [(0, .ref a0), (1, v1), (2, v2)]) (st' := [.int (i32 1), .int xe1]) rfl ?_
  exact wp_cmp ⟨rfl, rfl⟩ rfl (fun hc => wp_weak (re_sb_at rfl (re_sb_at rfl (re_sb_at rfl (re_sb_nil _)))) (K1 (ic1_ge hc))) (fun hc => wp_weak (re_sb_nil _) (K2 (ic0_ge hc)))
theorem B458_8 {SC : List Value} {d s : Nat} {h : re_H} {Q : Nat → Value → re_H → Prop} 
    (K : Q 1 (.int (i32 0)) h) : wp SC 458 d s 8 [] [] h Q := by
  refine wp_run 1 (pc' := 9) (lv' := []) (st' := [.int (i32 0)]) rfl ?_
  exact wp_retz ⟨rfl, rfl⟩ rfl (Or.inl rfl) K
theorem B458_10 {SC : List Value} {d s : Nat} {h : re_H} {Q : Nat → Value → re_H → Prop} {a0 : Nat} {v1 : Value} (r1 : re_R v1) {v2 : Value} (r2 : re_R v2)
    {xe1 : Int32} (e2 : nb_fd h a0 7 8 (.int xe1)) {w : List Value} (e : re_hg h a0 = some (7, w)) (hk : 8 < w.length) (K : wp SC 458 d s 20 [(0, .ref a0), (1, v1), (2, v2)] [] (re_hw h a0 (7, w.set 8 (.int (xe1 - (i32 1))))) Q) : wp SC 458 d s 10 [(0, .ref a0), (1, v1), (2, v2)] [] h Q := by
  refine wp_run 2 (pc' := 12) (lv' := [(0, .ref a0), (1, v1), (2, v2)]) (st' := [.ref a0, .ref a0]) rfl ?_
  obtain ⟨w2, e2a, e2b⟩ := e2
  refine wp_gf ⟨rfl, rfl⟩ rfl e2a e2b ?_
  refine wp_run 2 (pc' := 17) (lv' := [(0, .ref a0), (1, v1), (2, v2)]) (st' := [.int (xe1 - (i32 1)), .ref a0]) rfl ?_
  exact wp_pf ⟨rfl, rfl⟩ rfl (Or.inl rfl) e hk (fit_i _) (wp_weak (re_sb_at rfl (re_sb_at rfl (re_sb_at rfl (re_sb_nil _)))) K)
theorem B458_20 {SC : List Value} {d s : Nat} {h : re_H} {Q : Nat → Value → re_H → Prop} {a0 : Nat} {v1 : Value} (r1 : re_R v1) {v2 : Value} (r2 : re_R v2)
    {b1 : Nat} (n1 : v1 = .ref b1) {ve2 : Value} (re2 : re_R ve2) (e3 : nb_fd h b1 9 4 (ve2)) {ae4 : Nat} (e5 : nb_fd h a0 7 0 (.ref ae4)) {xe6 : Int32} (e7 : nb_fd h b1 9 1 (.int xe6)) {ae8 : Nat} (e9 : nb_fd h a0 7 6 (.ref ae8)) {xe10 : Int32} (e11 : nb_fd h a0 7 8 (.int xe10)) {le12 : Int64} (e13 : nb_ar h ae8 101 xe10 (.long le12)) {ae14 : Nat} (e15 : nb_fd h a0 7 7 (.ref ae14)) {xe16 : Int32} (e17 : nb_fd h a0 7 8 (.int xe16)) {ve18 : Value} (re18 : re_R ve18) (e19 : nb_ar h ae14 106 xe16 (ve18)) {c : Nat} {w : List Value} (eg : re_hg h ae4 = some (c, w)) (ec : c = 6) (K : wp SC 388 d 0 0 [(0, .ref ae4), (1, .int xe6), (2, .long le12), (4, ve18), (5, v2)] [] h (wp_ret SC 458 (d + 1) s 55 [] [ve2, .ref a0] Q)) : wp SC 458 (d + 1) s 20 [(0, .ref a0), (1, v1), (2, v2)] [] h Q := by
  refine wp_run 1 (pc' := 21) (lv' := [(0, .ref a0), (1, v1), (2, v2)]) (st' := [.ref a0]) rfl ?_
  refine wp_alR (ins := .aload_n 1) (k := 1) (pc' := 22) ⟨rfl, rfl⟩ (Or.inr ⟨_, rfl, rfl, rfl⟩) rfl r1 ?_
  subst n1
  obtain ⟨w3, e3a, e3b⟩ := e3
  refine wp_gf ⟨rfl, rfl⟩ rfl e3a e3b ?_
  refine wp_run 1 (pc' := 26) (lv' := [(0, .ref a0), (1, .ref b1), (2, v2)]) (st' := [.ref a0, ve2, .ref a0]) rfl ?_
  obtain ⟨w5, e5a, e5b⟩ := e5
  refine wp_gf ⟨rfl, rfl⟩ rfl e5a e5b ?_
  refine wp_run 1 (pc' := 30) (lv' := [(0, .ref a0), (1, .ref b1), (2, v2)]) (st' := [.ref b1, .ref ae4, ve2, .ref a0]) rfl ?_
  obtain ⟨w7, e7a, e7b⟩ := e7
  refine wp_gf ⟨rfl, rfl⟩ rfl e7a e7b ?_
  refine wp_run 1 (pc' := 34) (lv' := [(0, .ref a0), (1, .ref b1), (2, v2)]) (st' := [.ref a0, .int xe6, .ref ae4, ve2, .ref a0]) rfl ?_
  obtain ⟨w9, e9a, e9b⟩ := e9
  refine wp_gf ⟨rfl, rfl⟩ rfl e9a e9b ?_
  refine wp_run 1 (pc' := 38) (lv' := [(0, .ref a0), (1, .ref b1), (2, v2)]) (st' := [.ref a0, .ref ae8, .int xe6, .ref ae4, ve2, .ref a0]) rfl ?_
  obtain ⟨w11, e11a, e11b⟩ := e11
  refine wp_gf ⟨rfl, rfl⟩ rfl e11a e11b ?_
  obtain ⟨w13, i13, e13a, e13x, e13i, e13v⟩ := e13
  refine wp_lal ⟨rfl, rfl⟩ e13a rfl e13x e13i e13v ?_
  refine wp_run 1 (pc' := 43) (lv' := [(0, .ref a0), (1, .ref b1), (2, v2)]) (st' := [.ref a0, .long le12, .int xe6, .ref ae4, ve2, .ref a0]) rfl ?_
  obtain ⟨w15, e15a, e15b⟩ := e15
  refine wp_gf ⟨rfl, rfl⟩ rfl e15a e15b ?_
  refine wp_run 1 (pc' := 47) (lv' := [(0, .ref a0), (1, .ref b1), (2, v2)]) (st' := [.ref a0, .ref ae14, .long le12, .int xe6, .ref ae4, ve2, .ref a0]) rfl ?_
  obtain ⟨w17, e17a, e17b⟩ := e17
  refine wp_gf ⟨rfl, rfl⟩ rfl e17a e17b ?_
  obtain ⟨w19, i19, e19a, e19x, e19i, e19v⟩ := e19
  refine wp_aal ⟨rfl, rfl⟩ e19a ⟨by decide, by decide⟩ e19x e19i e19v ?_
  refine wp_alR (ins := .aload_n 2) (k := 2) (pc' := 52) ⟨rfl, rfl⟩ (Or.inr ⟨_, rfl, rfl, rfl⟩) rfl r2 ?_
  have eA : lv_args 0 (.ref ae4 :: [v2, ve18, .long le12, .int xe6].reverse) = [(0, .ref ae4), (1, .int xe6), (2, .long le12), (4, ve18), (5, v2)] := by simp [lv_args, vc_i, vc_l, vc_r, vc_n, vc_a, re_R_cat r2, re_R_cat re18]
  refine wp_callV (ar := [v2, ve18, .long le12, .int xe6]) (rest := [ve2, .ref a0]) (s1 := 0) (s2 := s) (d' := d) ⟨rfl, rfl⟩ rfl (Or.inl rfl)  (by simp [re_cat, vc_i, vc_l, vc_r, vc_n, vc_a, re_R_cat re2]) (by rw [show re_cat (.ref ae4 :: [v2, ve18, .long le12, .int xe6].reverse) = 6 from by simp [re_cat, vc_i, vc_l, vc_r, vc_n, vc_a, re_R_cat r2, re_R_cat re18]]; decide) (by decide) rfl eg ec rfl (Nat.le_of_eq (Nat.zero_add s)) ?_
  rw [eA]
  exact wp_mono K (fun k v h' z => wp_ret_weak (re_sb_nil _) z)
theorem B458_55 {SC : List Value} {d s : Nat} {h : re_H} {Q : Nat → Value → re_H → Prop} {vs0 : Value} (rs0 : re_R vs0) {vs1 : Value} (rs1 : re_R vs1) {as2 : Nat}
    {c : Nat} {w : List Value} (eg : re_hg h as2 = some (c, w)) (ec : c = 7) (K : wp SC 452 d 0 0 [(0, .ref as2), (1, vs1), (2, vs0), (3, .int (i32 0))] [] h (wp_ret SC 458 (d + 1) s 59 [] [] Q)) : wp SC 458 (d + 1) s 55 [] [vs0, vs1, .ref as2] h Q := by
  refine wp_run 1 (pc' := 56) (lv' := []) (st' := [.int (i32 0), vs0, vs1, .ref as2]) rfl ?_
  have eA : lv_args 0 (.ref as2 :: [.int (i32 0), vs0, vs1].reverse) = [(0, .ref as2), (1, vs1), (2, vs0), (3, .int (i32 0))] := by simp [lv_args, vc_i, vc_l, vc_r, vc_n, vc_a, re_R_cat rs0, re_R_cat rs1]
  refine wp_callV (ar := [.int (i32 0), vs0, vs1]) (rest := []) (s1 := 0) (s2 := s) (d' := d) ⟨rfl, rfl⟩ rfl (Or.inl rfl)  (by simp [re_cat, vc_i, vc_l, vc_r, vc_n, vc_a]) (by rw [show re_cat (.ref as2 :: [.int (i32 0), vs0, vs1].reverse) = 4 from by simp [re_cat, vc_i, vc_l, vc_r, vc_n, vc_a, re_R_cat rs0, re_R_cat rs1]]; decide) (by decide) rfl eg ec rfl (Nat.le_of_eq (Nat.zero_add s)) ?_
  rw [eA]
  exact wp_mono K (fun k v h' z => wp_ret_weak (re_sb_nil _) z)
theorem B458_59 {SC : List Value} {d s : Nat} {h : re_H} {Q : Nat → Value → re_H → Prop} 
    (K : Q 1 (.int (i32 1)) h) : wp SC 458 d s 59 [] [] h Q := by
  refine wp_run 1 (pc' := 60) (lv' := []) (st' := [.int (i32 1)]) rfl ?_
  exact wp_retz ⟨rfl, rfl⟩ rfl (Or.inr rfl) K
theorem B459_0 {SC : List Value} {d s : Nat} {h : re_H} {Q : Nat → Value → re_H → Prop} {a0 : Nat}
    {xe1 : Int32} (e2 : nb_fd h a0 7 8 (.int xe1)) (K1 : ¬ xe1 < (i32 2) → wp SC 459 d s 10 [(0, .ref a0)] [] h Q) (K2 : xe1 < (i32 2) → wp SC 459 d s 8 [] [] h Q) : wp SC 459 d s 0 [(0, .ref a0)] [] h Q := by
  refine wp_run 1 (pc' := 1) (lv' := [(0, .ref a0)]) (st' := [.ref a0]) rfl ?_
  obtain ⟨w2, e2a, e2b⟩ := e2
  refine wp_gf ⟨rfl, rfl⟩ rfl e2a e2b ?_
  refine wp_run 1 (pc' := 5) (lv' := [(0, .ref a0)]) (st' := [.int (i32 2), .int xe1]) rfl ?_
  exact wp_cmp ⟨rfl, rfl⟩ rfl (fun hc => wp_weak (re_sb_at rfl (re_sb_nil _)) (K1 (ic1_ge hc))) (fun hc => wp_weak (re_sb_nil _) (K2 (ic0_ge hc)))
theorem B459_8 {SC : List Value} {d s : Nat} {h : re_H} {Q : Nat → Value → re_H → Prop} 
    (K : Q 1 (.int (i32 0)) h) : wp SC 459 d s 8 [] [] h Q := by
  refine wp_run 1 (pc' := 9) (lv' := []) (st' := [.int (i32 0)]) rfl ?_
  exact wp_retz ⟨rfl, rfl⟩ rfl (Or.inl rfl) K
theorem B459_10 {SC : List Value} {d s : Nat} {h : re_H} {Q : Nat → Value → re_H → Prop} {a0 : Nat}
    {xe1 : Int32} (e2 : nb_fd h a0 7 8 (.int xe1)) {w : List Value} (e : re_hg h a0 = some (7, w)) (hk : 8 < w.length) (K : wp SC 459 d s 20 [(0, .ref a0)] [] (re_hw h a0 (7, w.set 8 (.int (xe1 - (i32 2))))) Q) : wp SC 459 d s 10 [(0, .ref a0)] [] h Q := by
  refine wp_run 2 (pc' := 12) (lv' := [(0, .ref a0)]) (st' := [.ref a0, .ref a0]) rfl ?_
  obtain ⟨w2, e2a, e2b⟩ := e2
  refine wp_gf ⟨rfl, rfl⟩ rfl e2a e2b ?_
  refine wp_run 2 (pc' := 17) (lv' := [(0, .ref a0)]) (st' := [.int (xe1 - (i32 2)), .ref a0]) rfl ?_
  exact wp_pf ⟨rfl, rfl⟩ rfl (Or.inl rfl) e hk (fit_i _) (wp_weak (re_sb_at rfl (re_sb_nil _)) K)
theorem B459_20 {SC : List Value} {d s : Nat} {h : re_H} {Q : Nat → Value → re_H → Prop} {a0 : Nat}
    {ae1 : Nat} (e2 : nb_fd h a0 7 7 (.ref ae1)) {xe3 : Int32} (e4 : nb_fd h a0 7 8 (.int xe3)) {ve5 : Value} (re5 : re_R ve5) (e6 : nb_ar h ae1 106 xe3 (ve5)) (K1 : ve5 = .null → wp SC 459 d s 41 [] [] h Q) (K2 : ∀ b7, ve5 = .ref b7 → wp SC 459 d s 34 [(0, .ref a0), (1, .ref b7)] [] h Q) : wp SC 459 d s 20 [(0, .ref a0)] [] h Q := by
  refine wp_run 1 (pc' := 21) (lv' := [(0, .ref a0)]) (st' := [.ref a0]) rfl ?_
  obtain ⟨w2, e2a, e2b⟩ := e2
  refine wp_gf ⟨rfl, rfl⟩ rfl e2a e2b ?_
  refine wp_run 1 (pc' := 25) (lv' := [(0, .ref a0)]) (st' := [.ref a0, .ref ae1]) rfl ?_
  obtain ⟨w4, e4a, e4b⟩ := e4
  refine wp_gf ⟨rfl, rfl⟩ rfl e4a e4b ?_
  obtain ⟨w6, i6, e6a, e6x, e6i, e6v⟩ := e6
  refine wp_aal ⟨rfl, rfl⟩ e6a ⟨by decide, by decide⟩ e6x e6i e6v ?_
  refine wp_asR (ins := .astore_n 1) (k := 1) (pc' := 30) (lv' := [(1, ve5), (0, .ref a0)]) ⟨rfl, rfl⟩ (Or.inr ⟨_, rfl, rfl, rfl⟩) (by decide) re5 rfl ?_
  refine wp_alR (ins := .aload_n 1) (k := 1) (pc' := 31) ⟨rfl, rfl⟩ (Or.inr ⟨_, rfl, rfl, rfl⟩) rfl re5 ?_
  exact wp_ifn ⟨rfl, rfl⟩ rfl re5 (fun hc => by subst hc; exact wp_weak (re_sb_nil _) (K1 rfl)) (fun bb hc => by subst hc; exact wp_weak (re_sb_at rfl (re_sb_at rfl (re_sb_nil _))) (K2 bb rfl))
theorem B459_34 {SC : List Value} {d s : Nat} {h : re_H} {Q : Nat → Value → re_H → Prop} {a0 : Nat} {a1 : Nat}
    {ve1 : Value} (re1 : re_R ve1) (e2 : nb_fd h a1 10 0 (ve1)) (K1 : ve1 = .null → wp SC 459 d s 41 [] [] h Q) (K2 : ∀ b3, ve1 = .ref b3 → wp SC 459 d s 43 [(0, .ref a0), (1, .ref a1)] [] h Q) : wp SC 459 d s 34 [(0, .ref a0), (1, .ref a1)] [] h Q := by
  refine wp_run 1 (pc' := 35) (lv' := [(0, .ref a0), (1, .ref a1)]) (st' := [.ref a1]) rfl ?_
  obtain ⟨w2, e2a, e2b⟩ := e2
  refine wp_gf ⟨rfl, rfl⟩ rfl e2a e2b ?_
  exact wp_ifnn ⟨rfl, rfl⟩ rfl re1 (fun bb hc => by subst hc; exact wp_weak (re_sb_at rfl (re_sb_at rfl (re_sb_nil _))) (K2 bb rfl)) (fun hc => by subst hc; exact wp_weak (re_sb_nil _) (K1 rfl))
theorem B459_41 {SC : List Value} {d s : Nat} {h : re_H} {Q : Nat → Value → re_H → Prop} 
    (K : Q 1 (.int (i32 0)) h) : wp SC 459 d s 41 [] [] h Q := by
  refine wp_run 1 (pc' := 42) (lv' := []) (st' := [.int (i32 0)]) rfl ?_
  exact wp_retz ⟨rfl, rfl⟩ rfl (Or.inl rfl) K
theorem B459_43 {SC : List Value} {d s : Nat} {h : re_H} {Q : Nat → Value → re_H → Prop} {a0 : Nat} {a1 : Nat}
    {ae1 : Nat} (e2 : nb_fd h a0 7 0 (.ref ae1)) {ve3 : Value} (re3 : re_R ve3) (e4 : nb_fd h a1 10 0 (ve3)) {b5 : Nat} (n5 : ve3 = .ref b5) {xe6 : Int32} (e7 : nb_fd h b5 9 1 (.int xe6)) {ae8 : Nat} (e9 : nb_fd h a0 7 6 (.ref ae8)) {xe10 : Int32} (e11 : nb_fd h a0 7 8 (.int xe10)) {le12 : Int64} (e13 : nb_ar h ae8 101 (xe10 + (i32 1)) (.long le12)) {ae14 : Nat} (e15 : nb_fd h a0 7 7 (.ref ae14)) {xe16 : Int32} (e17 : nb_fd h a0 7 8 (.int xe16)) {ve18 : Value} (re18 : re_R ve18) (e19 : nb_ar h ae14 106 (xe16 + (i32 1)) (ve18)) {ve20 : Value} (re20 : re_R ve20) (e21 : nb_fd h a1 10 4 (ve20)) {c : Nat} {w : List Value} (eg : re_hg h ae1 = some (c, w)) (ec : c = 6) (K : wp SC 388 d 0 0 [(0, .ref ae1), (1, .int xe6), (2, .long le12), (4, ve18), (5, ve20)] [] h (wp_ret SC 459 (d + 1) s 83 [(0, .ref a0), (1, .ref a1)] [] Q)) : wp SC 459 (d + 1) s 43 [(0, .ref a0), (1, .ref a1)] [] h Q := by
  refine wp_run 1 (pc' := 44) (lv' := [(0, .ref a0), (1, .ref a1)]) (st' := [.ref a0]) rfl ?_
  obtain ⟨w2, e2a, e2b⟩ := e2
  refine wp_gf ⟨rfl, rfl⟩ rfl e2a e2b ?_
  refine wp_run 1 (pc' := 48) (lv' := [(0, .ref a0), (1, .ref a1)]) (st' := [.ref a1, .ref ae1]) rfl ?_
  obtain ⟨w4, e4a, e4b⟩ := e4
  refine wp_gf ⟨rfl, rfl⟩ rfl e4a e4b ?_
  subst n5
  obtain ⟨w7, e7a, e7b⟩ := e7
  refine wp_gf ⟨rfl, rfl⟩ rfl e7a e7b ?_
  refine wp_run 1 (pc' := 55) (lv' := [(0, .ref a0), (1, .ref a1)]) (st' := [.ref a0, .int xe6, .ref ae1]) rfl ?_
  obtain ⟨w9, e9a, e9b⟩ := e9
  refine wp_gf ⟨rfl, rfl⟩ rfl e9a e9b ?_
  refine wp_run 1 (pc' := 59) (lv' := [(0, .ref a0), (1, .ref a1)]) (st' := [.ref a0, .ref ae8, .int xe6, .ref ae1]) rfl ?_
  obtain ⟨w11, e11a, e11b⟩ := e11
  refine wp_gf ⟨rfl, rfl⟩ rfl e11a e11b ?_
  refine wp_run 2 (pc' := 64) (lv' := [(0, .ref a0), (1, .ref a1)]) (st' := [.int (xe10 + (i32 1)), .ref ae8, .int xe6, .ref ae1]) rfl ?_
  obtain ⟨w13, i13, e13a, e13x, e13i, e13v⟩ := e13
  refine wp_lal ⟨rfl, rfl⟩ e13a rfl e13x e13i e13v ?_
  refine wp_run 1 (pc' := 66) (lv' := [(0, .ref a0), (1, .ref a1)]) (st' := [.ref a0, .long le12, .int xe6, .ref ae1]) rfl ?_
  obtain ⟨w15, e15a, e15b⟩ := e15
  refine wp_gf ⟨rfl, rfl⟩ rfl e15a e15b ?_
  refine wp_run 1 (pc' := 70) (lv' := [(0, .ref a0), (1, .ref a1)]) (st' := [.ref a0, .ref ae14, .long le12, .int xe6, .ref ae1]) rfl ?_
  obtain ⟨w17, e17a, e17b⟩ := e17
  refine wp_gf ⟨rfl, rfl⟩ rfl e17a e17b ?_
  refine wp_run 2 (pc' := 75) (lv' := [(0, .ref a0), (1, .ref a1)]) (st' := [.int (xe16 + (i32 1)), .ref ae14, .long le12, .int xe6, .ref ae1]) rfl ?_
  obtain ⟨w19, i19, e19a, e19x, e19i, e19v⟩ := e19
  refine wp_aal ⟨rfl, rfl⟩ e19a ⟨by decide, by decide⟩ e19x e19i e19v ?_
  refine wp_run 1 (pc' := 77) (lv' := [(0, .ref a0), (1, .ref a1)]) (st' := [.ref a1, ve18, .long le12, .int xe6, .ref ae1]) rfl ?_
  obtain ⟨w21, e21a, e21b⟩ := e21
  refine wp_gf ⟨rfl, rfl⟩ rfl e21a e21b ?_
  have eA : lv_args 0 (.ref ae1 :: [ve20, ve18, .long le12, .int xe6].reverse) = [(0, .ref ae1), (1, .int xe6), (2, .long le12), (4, ve18), (5, ve20)] := by simp [lv_args, vc_i, vc_l, vc_r, vc_n, vc_a, re_R_cat re20, re_R_cat re18]
  refine wp_callV (ar := [ve20, ve18, .long le12, .int xe6]) (rest := []) (s1 := 0) (s2 := s) (d' := d) ⟨rfl, rfl⟩ rfl (Or.inl rfl)  (by simp [re_cat, vc_i, vc_l, vc_r, vc_n, vc_a]) (by rw [show re_cat (.ref ae1 :: [ve20, ve18, .long le12, .int xe6].reverse) = 6 from by simp [re_cat, vc_i, vc_l, vc_r, vc_n, vc_a, re_R_cat re20, re_R_cat re18]]; decide) (by decide) rfl eg ec rfl (Nat.le_of_eq (Nat.zero_add s)) ?_
  rw [eA]
  exact wp_mono K (fun k v h' z => wp_ret_weak (re_sb_at rfl (re_sb_at rfl (re_sb_nil _))) z)
theorem B459_83 {SC : List Value} {d s : Nat} {h : re_H} {Q : Nat → Value → re_H → Prop} {a0 : Nat} {a1 : Nat} {vs0 : Value} (rs0 : re_R vs0)
    {ve1 : Value} (re1 : re_R ve1) (e2 : nb_fd h a1 10 0 (ve1)) {b3 : Nat} (n3 : ve1 = .ref b3) {ve4 : Value} (re4 : re_R ve4) (e5 : nb_fd h b3 9 4 (ve4)) {c : Nat} {w : List Value} (eg : re_hg h a0 = some (c, w)) (ec : c = 7) (K : wp SC 452 d 0 0 [(0, .ref a0), (1, ve4), (2, vs0), (3, .int (i32 0))] [] h (wp_ret SC 459 (d + 1) s 97 [] [] Q)) : wp SC 459 (d + 1) s 83 [(0, .ref a0), (1, .ref a1)] [vs0] h Q := by
  refine wp_asR (ins := .astore_n 2) (k := 2) (pc' := 84) (lv' := [(2, vs0), (0, .ref a0), (1, .ref a1)]) ⟨rfl, rfl⟩ (Or.inr ⟨_, rfl, rfl, rfl⟩) (by decide) rs0 rfl ?_
  refine wp_run 2 (pc' := 86) (lv' := [(2, vs0), (0, .ref a0), (1, .ref a1)]) (st' := [.ref a1, .ref a0]) rfl ?_
  obtain ⟨w2, e2a, e2b⟩ := e2
  refine wp_gf ⟨rfl, rfl⟩ rfl e2a e2b ?_
  subst n3
  obtain ⟨w5, e5a, e5b⟩ := e5
  refine wp_gf ⟨rfl, rfl⟩ rfl e5a e5b ?_
  refine wp_alR (ins := .aload_n 2) (k := 2) (pc' := 93) ⟨rfl, rfl⟩ (Or.inr ⟨_, rfl, rfl, rfl⟩) rfl rs0 ?_
  refine wp_run 1 (pc' := 94) (lv' := [(2, vs0), (0, .ref a0), (1, .ref a1)]) (st' := [.int (i32 0), vs0, ve4, .ref a0]) rfl ?_
  have eA : lv_args 0 (.ref a0 :: [.int (i32 0), vs0, ve4].reverse) = [(0, .ref a0), (1, ve4), (2, vs0), (3, .int (i32 0))] := by simp [lv_args, vc_i, vc_l, vc_r, vc_n, vc_a, re_R_cat rs0, re_R_cat re4]
  refine wp_callV (ar := [.int (i32 0), vs0, ve4]) (rest := []) (s1 := 0) (s2 := s) (d' := d) ⟨rfl, rfl⟩ rfl (Or.inl rfl)  (by simp [re_cat, vc_i, vc_l, vc_r, vc_n, vc_a]) (by rw [show re_cat (.ref a0 :: [.int (i32 0), vs0, ve4].reverse) = 4 from by simp [re_cat, vc_i, vc_l, vc_r, vc_n, vc_a, re_R_cat rs0, re_R_cat re4]]; decide) (by decide) rfl eg ec rfl (Nat.le_of_eq (Nat.zero_add s)) ?_
  rw [eA]
  exact wp_mono K (fun k v h' z => wp_ret_weak (re_sb_nil _) z)
theorem B459_97 {SC : List Value} {d s : Nat} {h : re_H} {Q : Nat → Value → re_H → Prop} 
    (K : Q 1 (.int (i32 1)) h) : wp SC 459 d s 97 [] [] h Q := by
  refine wp_run 1 (pc' := 98) (lv' := []) (st' := [.int (i32 1)]) rfl ?_
  exact wp_retz ⟨rfl, rfl⟩ rfl (Or.inr rfl) K
set_option maxRecDepth 20000 in
theorem B460_0 {SC : List Value} {d s : Nat} {h : re_H} {Q : Nat → Value → re_H → Prop} {a0 : Nat} {v1 : Value} (r1 : re_R v1) {v2 : Value} (r2 : re_R v2)
    {xe1 : Int32} (e2 : nb_fd h a0 7 10 (.int xe1)) (K1 : xe1 < (i32 300) → wp SC 460 d s 12 [(0, .ref a0), (1, v1), (2, v2)] [] h Q) (K2 : ¬ xe1 < (i32 300) → wp SC 460 d s 10 [] [] h Q) : wp SC 460 d s 0 [(0, .ref a0), (1, v1), (2, v2)] [] h Q := by
  refine wp_run 1 (pc' := 1) (lv' := [(0, .ref a0), (1, v1), (2, v2)]) (st' := [.ref a0]) rfl ?_
  obtain ⟨w2, e2a, e2b⟩ := e2
  refine wp_gf ⟨rfl, rfl⟩ rfl e2a e2b ?_
  refine wp_si (x := (i32 300)) ⟨rfl, rfl⟩ (by decide) ?_
  exact wp_cmp ⟨rfl, rfl⟩ rfl (fun hc => wp_weak (re_sb_at rfl (re_sb_at rfl (re_sb_at rfl (re_sb_nil _)))) (K1 (ic1_lt hc))) (fun hc => wp_weak (re_sb_nil _) (K2 (ic0_lt hc)))
set_option maxRecDepth 20000 in
theorem B460_10 {SC : List Value} {d s : Nat} {h : re_H} {Q : Nat → Value → re_H → Prop} 
    (K : Q 1 (.int (i32 0)) h) : wp SC 460 d s 10 [] [] h Q := by
  refine wp_run 1 (pc' := 11) (lv' := []) (st' := [.int (i32 0)]) rfl ?_
  exact wp_retz ⟨rfl, rfl⟩ rfl (Or.inl rfl) K
set_option maxRecDepth 20000 in
theorem B460_12 {SC : List Value} {d s : Nat} {h : re_H} {Q : Nat → Value → re_H → Prop} {a0 : Nat} {v1 : Value} (r1 : re_R v1) {v2 : Value} (r2 : re_R v2)
    {xe1 : Int32} (e2 : nb_fd h a0 7 10 (.int xe1)) {w : List Value} (e : re_hg h a0 = some (7, w)) (hk : 10 < w.length) (K : wp SC 460 d s 22 [(0, .ref a0), (1, v1), (2, v2)] [] (re_hw h a0 (7, w.set 10 (.int (xe1 + (i32 1))))) Q) : wp SC 460 d s 12 [(0, .ref a0), (1, v1), (2, v2)] [] h Q := by
  refine wp_run 2 (pc' := 14) (lv' := [(0, .ref a0), (1, v1), (2, v2)]) (st' := [.ref a0, .ref a0]) rfl ?_
  obtain ⟨w2, e2a, e2b⟩ := e2
  refine wp_gf ⟨rfl, rfl⟩ rfl e2a e2b ?_
  refine wp_run 2 (pc' := 19) (lv' := [(0, .ref a0), (1, v1), (2, v2)]) (st' := [.int (xe1 + (i32 1)), .ref a0]) rfl ?_
  exact wp_pf ⟨rfl, rfl⟩ rfl (Or.inl rfl) e hk (fit_i _) (wp_weak (re_sb_at rfl (re_sb_at rfl (re_sb_at rfl (re_sb_nil _)))) K)
set_option maxRecDepth 20000 in
theorem B460_22 {SC : List Value} {d s : Nat} {h : re_H} {Q : Nat → Value → re_H → Prop} {a0 : Nat} {v1 : Value} (r1 : re_R v1) {v2 : Value} (r2 : re_R v2)
    {b1 : Nat} (n1 : v1 = .ref b1) {xe2 : Int32} (e3 : nb_fd h b1 9 0 (.int xe2)) (hx : xe2.toInt < 0 ∨ 8 < xe2.toInt) (K : wp SC 460 d s 150 [(0, .ref a0), (1, .ref b1), (2, v2)] [] h Q) : wp SC 460 d s 22 [(0, .ref a0), (1, v1), (2, v2)] [] h Q := by
  refine wp_alR (ins := .aload_n 1) (k := 1) (pc' := 23) ⟨rfl, rfl⟩ (Or.inr ⟨_, rfl, rfl, rfl⟩) rfl r1 ?_
  subst n1
  obtain ⟨w3, e3a, e3b⟩ := e3
  refine wp_gf ⟨rfl, rfl⟩ rfl e3a e3b ?_
  exact wp_tsd ⟨rfl, rfl⟩ rfl hx (wp_weak (re_sb_at rfl (re_sb_at rfl (re_sb_at rfl (re_sb_nil _)))) K)
set_option maxRecDepth 20000 in
theorem B460_22_0 {SC : List Value} {d s : Nat} {h : re_H} {Q : Nat → Value → re_H → Prop} {a0 : Nat} {v1 : Value} (r1 : re_R v1) {v2 : Value} (r2 : re_R v2)
    {b1 : Nat} (n1 : v1 = .ref b1) (e3 : nb_fd h b1 9 0 (.int (i32 0))) (K : wp SC 460 d s 76 [(0, .ref a0), (1, .ref b1)] [] h Q) : wp SC 460 d s 22 [(0, .ref a0), (1, v1), (2, v2)] [] h Q := by
  refine wp_alR (ins := .aload_n 1) (k := 1) (pc' := 23) ⟨rfl, rfl⟩ (Or.inr ⟨_, rfl, rfl, rfl⟩) rfl r1 ?_
  subst n1
  obtain ⟨w3, e3a, e3b⟩ := e3
  refine wp_gf ⟨rfl, rfl⟩ rfl e3a e3b ?_
  exact wp_pure (pc' := 76) (lv' := [(0, .ref a0), (1, .ref b1), (2, v2)]) (st' := []) ⟨rfl, rfl⟩ rfl (wp_weak (re_sb_at rfl (re_sb_at rfl (re_sb_nil _))) K)
set_option maxRecDepth 20000 in
theorem B460_22_1 {SC : List Value} {d s : Nat} {h : re_H} {Q : Nat → Value → re_H → Prop} {a0 : Nat} {v1 : Value} (r1 : re_R v1) {v2 : Value} (r2 : re_R v2)
    {b1 : Nat} (n1 : v1 = .ref b1) (e3 : nb_fd h b1 9 0 (.int (i32 1))) (K : wp SC 460 d s 86 [(0, .ref a0), (1, .ref b1), (2, v2)] [] h Q) : wp SC 460 d s 22 [(0, .ref a0), (1, v1), (2, v2)] [] h Q := by
  refine wp_alR (ins := .aload_n 1) (k := 1) (pc' := 23) ⟨rfl, rfl⟩ (Or.inr ⟨_, rfl, rfl, rfl⟩) rfl r1 ?_
  subst n1
  obtain ⟨w3, e3a, e3b⟩ := e3
  refine wp_gf ⟨rfl, rfl⟩ rfl e3a e3b ?_
  exact wp_pure (pc' := 86) (lv' := [(0, .ref a0), (1, .ref b1), (2, v2)]) (st' := []) ⟨rfl, rfl⟩ rfl (wp_weak (re_sb_at rfl (re_sb_at rfl (re_sb_at rfl (re_sb_nil _)))) K)
set_option maxRecDepth 20000 in
theorem B460_22_2 {SC : List Value} {d s : Nat} {h : re_H} {Q : Nat → Value → re_H → Prop} {a0 : Nat} {v1 : Value} (r1 : re_R v1) {v2 : Value} (r2 : re_R v2)
    {b1 : Nat} (n1 : v1 = .ref b1) (e3 : nb_fd h b1 9 0 (.int (i32 2))) (K : wp SC 460 d s 96 [(0, .ref a0), (1, .ref b1)] [] h Q) : wp SC 460 d s 22 [(0, .ref a0), (1, v1), (2, v2)] [] h Q := by
  refine wp_alR (ins := .aload_n 1) (k := 1) (pc' := 23) ⟨rfl, rfl⟩ (Or.inr ⟨_, rfl, rfl, rfl⟩) rfl r1 ?_
  subst n1
  obtain ⟨w3, e3a, e3b⟩ := e3
  refine wp_gf ⟨rfl, rfl⟩ rfl e3a e3b ?_
  exact wp_pure (pc' := 96) (lv' := [(0, .ref a0), (1, .ref b1), (2, v2)]) (st' := []) ⟨rfl, rfl⟩ rfl (wp_weak (re_sb_at rfl (re_sb_at rfl (re_sb_nil _))) K)
set_option maxRecDepth 20000 in
theorem B460_22_3 {SC : List Value} {d s : Nat} {h : re_H} {Q : Nat → Value → re_H → Prop} {a0 : Nat} {v1 : Value} (r1 : re_R v1) {v2 : Value} (r2 : re_R v2)
    {b1 : Nat} (n1 : v1 = .ref b1) (e3 : nb_fd h b1 9 0 (.int (i32 3))) (K : wp SC 460 d s 150 [(0, .ref a0), (1, .ref b1), (2, v2)] [] h Q) : wp SC 460 d s 22 [(0, .ref a0), (1, v1), (2, v2)] [] h Q := by
  refine wp_alR (ins := .aload_n 1) (k := 1) (pc' := 23) ⟨rfl, rfl⟩ (Or.inr ⟨_, rfl, rfl, rfl⟩) rfl r1 ?_
  subst n1
  obtain ⟨w3, e3a, e3b⟩ := e3
  refine wp_gf ⟨rfl, rfl⟩ rfl e3a e3b ?_
  exact wp_pure (pc' := 150) (lv' := [(0, .ref a0), (1, .ref b1), (2, v2)]) (st' := []) ⟨rfl, rfl⟩ rfl (wp_weak (re_sb_at rfl (re_sb_at rfl (re_sb_at rfl (re_sb_nil _)))) K)
set_option maxRecDepth 20000 in
theorem B460_22_4 {SC : List Value} {d s : Nat} {h : re_H} {Q : Nat → Value → re_H → Prop} {a0 : Nat} {v1 : Value} (r1 : re_R v1) {v2 : Value} (r2 : re_R v2)
    {b1 : Nat} (n1 : v1 = .ref b1) (e3 : nb_fd h b1 9 0 (.int (i32 4))) (K : wp SC 460 d s 121 [(0, .ref a0), (1, .ref b1), (2, v2)] [] h Q) : wp SC 460 d s 22 [(0, .ref a0), (1, v1), (2, v2)] [] h Q := by
  refine wp_alR (ins := .aload_n 1) (k := 1) (pc' := 23) ⟨rfl, rfl⟩ (Or.inr ⟨_, rfl, rfl, rfl⟩) rfl r1 ?_
  subst n1
  obtain ⟨w3, e3a, e3b⟩ := e3
  refine wp_gf ⟨rfl, rfl⟩ rfl e3a e3b ?_
  exact wp_pure (pc' := 121) (lv' := [(0, .ref a0), (1, .ref b1), (2, v2)]) (st' := []) ⟨rfl, rfl⟩ rfl (wp_weak (re_sb_at rfl (re_sb_at rfl (re_sb_at rfl (re_sb_nil _)))) K)
set_option maxRecDepth 20000 in
theorem B460_22_5 {SC : List Value} {d s : Nat} {h : re_H} {Q : Nat → Value → re_H → Prop} {a0 : Nat} {v1 : Value} (r1 : re_R v1) {v2 : Value} (r2 : re_R v2)
    {b1 : Nat} (n1 : v1 = .ref b1) (e3 : nb_fd h b1 9 0 (.int (i32 5))) (K : wp SC 460 d s 150 [(0, .ref a0), (1, .ref b1), (2, v2)] [] h Q) : wp SC 460 d s 22 [(0, .ref a0), (1, v1), (2, v2)] [] h Q := by
  refine wp_alR (ins := .aload_n 1) (k := 1) (pc' := 23) ⟨rfl, rfl⟩ (Or.inr ⟨_, rfl, rfl, rfl⟩) rfl r1 ?_
  subst n1
  obtain ⟨w3, e3a, e3b⟩ := e3
  refine wp_gf ⟨rfl, rfl⟩ rfl e3a e3b ?_
  exact wp_pure (pc' := 150) (lv' := [(0, .ref a0), (1, .ref b1), (2, v2)]) (st' := []) ⟨rfl, rfl⟩ rfl (wp_weak (re_sb_at rfl (re_sb_at rfl (re_sb_at rfl (re_sb_nil _)))) K)
set_option maxRecDepth 20000 in
theorem B460_22_6 {SC : List Value} {d s : Nat} {h : re_H} {Q : Nat → Value → re_H → Prop} {a0 : Nat} {v1 : Value} (r1 : re_R v1) {v2 : Value} (r2 : re_R v2)
    {b1 : Nat} (n1 : v1 = .ref b1) (e3 : nb_fd h b1 9 0 (.int (i32 6))) (K : wp SC 460 d s 150 [(0, .ref a0), (1, .ref b1), (2, v2)] [] h Q) : wp SC 460 d s 22 [(0, .ref a0), (1, v1), (2, v2)] [] h Q := by
  refine wp_alR (ins := .aload_n 1) (k := 1) (pc' := 23) ⟨rfl, rfl⟩ (Or.inr ⟨_, rfl, rfl, rfl⟩) rfl r1 ?_
  subst n1
  obtain ⟨w3, e3a, e3b⟩ := e3
  refine wp_gf ⟨rfl, rfl⟩ rfl e3a e3b ?_
  exact wp_pure (pc' := 150) (lv' := [(0, .ref a0), (1, .ref b1), (2, v2)]) (st' := []) ⟨rfl, rfl⟩ rfl (wp_weak (re_sb_at rfl (re_sb_at rfl (re_sb_at rfl (re_sb_nil _)))) K)
set_option maxRecDepth 20000 in
theorem B460_22_7 {SC : List Value} {d s : Nat} {h : re_H} {Q : Nat → Value → re_H → Prop} {a0 : Nat} {v1 : Value} (r1 : re_R v1) {v2 : Value} (r2 : re_R v2)
    {b1 : Nat} (n1 : v1 = .ref b1) (e3 : nb_fd h b1 9 0 (.int (i32 7))) (K : wp SC 460 d s 114 [(0, .ref a0), (1, .ref b1), (2, v2)] [] h Q) : wp SC 460 d s 22 [(0, .ref a0), (1, v1), (2, v2)] [] h Q := by
  refine wp_alR (ins := .aload_n 1) (k := 1) (pc' := 23) ⟨rfl, rfl⟩ (Or.inr ⟨_, rfl, rfl, rfl⟩) rfl r1 ?_
  subst n1
  obtain ⟨w3, e3a, e3b⟩ := e3
  refine wp_gf ⟨rfl, rfl⟩ rfl e3a e3b ?_
  exact wp_pure (pc' := 114) (lv' := [(0, .ref a0), (1, .ref b1), (2, v2)]) (st' := []) ⟨rfl, rfl⟩ rfl (wp_weak (re_sb_at rfl (re_sb_at rfl (re_sb_at rfl (re_sb_nil _)))) K)
set_option maxRecDepth 20000 in
theorem B460_22_8 {SC : List Value} {d s : Nat} {h : re_H} {Q : Nat → Value → re_H → Prop} {a0 : Nat} {v1 : Value} (r1 : re_R v1) {v2 : Value} (r2 : re_R v2)
    {b1 : Nat} (n1 : v1 = .ref b1) (e3 : nb_fd h b1 9 0 (.int (i32 8))) (K : wp SC 460 d s 121 [(0, .ref a0), (1, .ref b1), (2, v2)] [] h Q) : wp SC 460 d s 22 [(0, .ref a0), (1, v1), (2, v2)] [] h Q := by
  refine wp_alR (ins := .aload_n 1) (k := 1) (pc' := 23) ⟨rfl, rfl⟩ (Or.inr ⟨_, rfl, rfl, rfl⟩) rfl r1 ?_
  subst n1
  obtain ⟨w3, e3a, e3b⟩ := e3
  refine wp_gf ⟨rfl, rfl⟩ rfl e3a e3b ?_
  exact wp_pure (pc' := 121) (lv' := [(0, .ref a0), (1, .ref b1), (2, v2)]) (st' := []) ⟨rfl, rfl⟩ rfl (wp_weak (re_sb_at rfl (re_sb_at rfl (re_sb_at rfl (re_sb_nil _)))) K)
set_option maxRecDepth 20000 in
theorem B460_76 {SC : List Value} {d s : Nat} {h : re_H} {Q : Nat → Value → re_H → Prop} {a0 : Nat} {v1 : Value} (r1 : re_R v1)
    {b1 : Nat} (n1 : v1 = .ref b1) {le2 : Int64} (e3 : nb_fd h b1 9 2 (.long le2)) {c : Nat} {w : List Value} (eg : re_hg h a0 = some (c, w)) (ec : c = 7) (K : wp SC 455 d 0 0 [(0, .ref a0), (1, .long le2), (3, .null)] [] h (wp_ret SC 460 (d + 1) s 85 [] [] Q)) : wp SC 460 (d + 1) s 76 [(0, .ref a0), (1, v1)] [] h Q := by
  refine wp_run 1 (pc' := 77) (lv' := [(0, .ref a0), (1, v1)]) (st' := [.ref a0]) rfl ?_
  refine wp_alR (ins := .aload_n 1) (k := 1) (pc' := 78) ⟨rfl, rfl⟩ (Or.inr ⟨_, rfl, rfl, rfl⟩) rfl r1 ?_
  subst n1
  obtain ⟨w3, e3a, e3b⟩ := e3
  refine wp_gf ⟨rfl, rfl⟩ rfl e3a e3b ?_
  refine wp_run 1 (pc' := 82) (lv' := [(0, .ref a0), (1, .ref b1)]) (st' := [.null, .long le2, .ref a0]) rfl ?_
  have eA : lv_args 0 (.ref a0 :: [.null, .long le2].reverse) = [(0, .ref a0), (1, .long le2), (3, .null)] := by simp [lv_args, vc_i, vc_l, vc_r, vc_n, vc_a]
  refine wp_callV (ar := [.null, .long le2]) (rest := []) (s1 := 0) (s2 := s) (d' := d) ⟨rfl, rfl⟩ rfl (Or.inl rfl)  (by simp [re_cat, vc_i, vc_l, vc_r, vc_n, vc_a]) (by rw [show re_cat (.ref a0 :: [.null, .long le2].reverse) = 4 from by simp [re_cat, vc_i, vc_l, vc_r, vc_n, vc_a]]; decide) (by decide) rfl eg ec rfl (Nat.le_of_eq (Nat.zero_add s)) ?_
  rw [eA]
  exact wp_mono K (fun k v h' z => wp_ret_weak (re_sb_nil _) z)
set_option maxRecDepth 20000 in
theorem B460_85 {SC : List Value} {d s : Nat} {h : re_H} {Q : Nat → Value → re_H → Prop} {xs0 : Int32}
    (hz : xs0 = 0 ∨ xs0 = 1) (K : Q 1 (.int xs0) h) : wp SC 460 d s 85 [] [.int xs0] h Q := by
  exact wp_retz ⟨rfl, rfl⟩ rfl hz K
set_option maxRecDepth 20000 in
theorem B460_86 {SC : List Value} {d s : Nat} {h : re_H} {Q : Nat → Value → re_H → Prop} {a0 : Nat} {v1 : Value} (r1 : re_R v1) {v2 : Value} (r2 : re_R v2)
    {b1 : Nat} (n1 : v1 = .ref b1) {xe2 : Int32} (e3 : nb_fd h b1 9 1 (.int xe2)) {c : Nat} {w : List Value} (eg : re_hg h a0 = some (c, w)) (ec : c = 7) (K : wp SC 461 d 0 0 [(0, .ref a0), (1, .int xe2), (2, v2)] [] h (wp_ret SC 460 (d + 1) s 95 [] [] Q)) : wp SC 460 (d + 1) s 86 [(0, .ref a0), (1, v1), (2, v2)] [] h Q := by
  refine wp_run 1 (pc' := 87) (lv' := [(0, .ref a0), (1, v1), (2, v2)]) (st' := [.ref a0]) rfl ?_
  refine wp_alR (ins := .aload_n 1) (k := 1) (pc' := 88) ⟨rfl, rfl⟩ (Or.inr ⟨_, rfl, rfl, rfl⟩) rfl r1 ?_
  subst n1
  obtain ⟨w3, e3a, e3b⟩ := e3
  refine wp_gf ⟨rfl, rfl⟩ rfl e3a e3b ?_
  refine wp_alR (ins := .aload_n 2) (k := 2) (pc' := 92) ⟨rfl, rfl⟩ (Or.inr ⟨_, rfl, rfl, rfl⟩) rfl r2 ?_
  have eA : lv_args 0 (.ref a0 :: [v2, .int xe2].reverse) = [(0, .ref a0), (1, .int xe2), (2, v2)] := by simp [lv_args, vc_i, vc_l, vc_r, vc_n, vc_a, re_R_cat r2]
  refine wp_callV (ar := [v2, .int xe2]) (rest := []) (s1 := 0) (s2 := s) (d' := d) ⟨rfl, rfl⟩ rfl (Or.inl rfl)  (by simp [re_cat, vc_i, vc_l, vc_r, vc_n, vc_a]) (by rw [show re_cat (.ref a0 :: [v2, .int xe2].reverse) = 3 from by simp [re_cat, vc_i, vc_l, vc_r, vc_n, vc_a, re_R_cat r2]]; decide) (by decide) rfl eg ec rfl (Nat.le_of_eq (Nat.zero_add s)) ?_
  rw [eA]
  exact wp_mono K (fun k v h' z => wp_ret_weak (re_sb_nil _) z)
set_option maxRecDepth 20000 in
theorem B460_95 {SC : List Value} {d s : Nat} {h : re_H} {Q : Nat → Value → re_H → Prop} {xs0 : Int32}
    (hz : xs0 = 0 ∨ xs0 = 1) (K : Q 1 (.int xs0) h) : wp SC 460 d s 95 [] [.int xs0] h Q := by
  exact wp_retz ⟨rfl, rfl⟩ rfl hz K
set_option maxRecDepth 20000 in
theorem B460_96 {SC : List Value} {d s : Nat} {h : re_H} {Q : Nat → Value → re_H → Prop} {a0 : Nat} {v1 : Value} (r1 : re_R v1)
    {ae1 : Nat} (e2 : nb_fd h a0 7 1 (.ref ae1)) {ae3 : Nat} (e4 : nb_fd h ae1 4 0 (.ref ae3)) {b5 : Nat} (n5 : v1 = .ref b5) {xe6 : Int32} (e7 : nb_fd h b5 9 1 (.int xe6)) {le8 : Int64} (e9 : nb_ar h ae3 101 xe6 (.long le8)) {c : Nat} {w : List Value} (eg : re_hg h a0 = some (c, w)) (ec : c = 7) (K : wp SC 455 d 0 0 [(0, .ref a0), (1, .long le8), (3, .null)] [] h (wp_ret SC 460 (d + 1) s 113 [] [] Q)) : wp SC 460 (d + 1) s 96 [(0, .ref a0), (1, v1)] [] h Q := by
  refine wp_run 2 (pc' := 98) (lv' := [(0, .ref a0), (1, v1)]) (st' := [.ref a0, .ref a0]) rfl ?_
  obtain ⟨w2, e2a, e2b⟩ := e2
  refine wp_gf ⟨rfl, rfl⟩ rfl e2a e2b ?_
  obtain ⟨w4, e4a, e4b⟩ := e4
  refine wp_gf ⟨rfl, rfl⟩ rfl e4a e4b ?_
  refine wp_alR (ins := .aload_n 1) (k := 1) (pc' := 105) ⟨rfl, rfl⟩ (Or.inr ⟨_, rfl, rfl, rfl⟩) rfl r1 ?_
  subst n5
  obtain ⟨w7, e7a, e7b⟩ := e7
  refine wp_gf ⟨rfl, rfl⟩ rfl e7a e7b ?_
  obtain ⟨w9, i9, e9a, e9x, e9i, e9v⟩ := e9
  refine wp_lal ⟨rfl, rfl⟩ e9a rfl e9x e9i e9v ?_
  refine wp_run 1 (pc' := 110) (lv' := [(0, .ref a0), (1, .ref b5)]) (st' := [.null, .long le8, .ref a0]) rfl ?_
  have eA : lv_args 0 (.ref a0 :: [.null, .long le8].reverse) = [(0, .ref a0), (1, .long le8), (3, .null)] := by simp [lv_args, vc_i, vc_l, vc_r, vc_n, vc_a]
  refine wp_callV (ar := [.null, .long le8]) (rest := []) (s1 := 0) (s2 := s) (d' := d) ⟨rfl, rfl⟩ rfl (Or.inl rfl)  (by simp [re_cat, vc_i, vc_l, vc_r, vc_n, vc_a]) (by rw [show re_cat (.ref a0 :: [.null, .long le8].reverse) = 4 from by simp [re_cat, vc_i, vc_l, vc_r, vc_n, vc_a]]; decide) (by decide) rfl eg ec rfl (Nat.le_of_eq (Nat.zero_add s)) ?_
  rw [eA]
  exact wp_mono K (fun k v h' z => wp_ret_weak (re_sb_nil _) z)
set_option maxRecDepth 20000 in
theorem B460_113 {SC : List Value} {d s : Nat} {h : re_H} {Q : Nat → Value → re_H → Prop} {xs0 : Int32}
    (hz : xs0 = 0 ∨ xs0 = 1) (K : Q 1 (.int xs0) h) : wp SC 460 d s 113 [] [.int xs0] h Q := by
  exact wp_retz ⟨rfl, rfl⟩ rfl hz K
set_option maxRecDepth 20000 in
theorem B460_114 {SC : List Value} {d s : Nat} {h : re_H} {Q : Nat → Value → re_H → Prop} {a0 : Nat} {v1 : Value} (r1 : re_R v1) {v2 : Value} (r2 : re_R v2)
    {c : Nat} {w : List Value} (eg : re_hg h a0 = some (c, w)) (ec : c = 7) (K : wp SC 462 d 0 0 [(0, .ref a0), (1, v1), (2, v2)] [] h (wp_ret SC 460 (d + 1) s 120 [] [] Q)) : wp SC 460 (d + 1) s 114 [(0, .ref a0), (1, v1), (2, v2)] [] h Q := by
  refine wp_run 1 (pc' := 115) (lv' := [(0, .ref a0), (1, v1), (2, v2)]) (st' := [.ref a0]) rfl ?_
  refine wp_alR (ins := .aload_n 1) (k := 1) (pc' := 116) ⟨rfl, rfl⟩ (Or.inr ⟨_, rfl, rfl, rfl⟩) rfl r1 ?_
  refine wp_alR (ins := .aload_n 2) (k := 2) (pc' := 117) ⟨rfl, rfl⟩ (Or.inr ⟨_, rfl, rfl, rfl⟩) rfl r2 ?_
  have eA : lv_args 0 (.ref a0 :: [v2, v1].reverse) = [(0, .ref a0), (1, v1), (2, v2)] := by simp [lv_args, vc_i, vc_l, vc_r, vc_n, vc_a, re_R_cat r2, re_R_cat r1]
  refine wp_callV (ar := [v2, v1]) (rest := []) (s1 := 0) (s2 := s) (d' := d) ⟨rfl, rfl⟩ rfl (Or.inl rfl)  (by simp [re_cat, vc_i, vc_l, vc_r, vc_n, vc_a]) (by rw [show re_cat (.ref a0 :: [v2, v1].reverse) = 3 from by simp [re_cat, vc_i, vc_l, vc_r, vc_n, vc_a, re_R_cat r2, re_R_cat r1]]; decide) (by decide) rfl eg ec rfl (Nat.le_of_eq (Nat.zero_add s)) ?_
  rw [eA]
  exact wp_mono K (fun k v h' z => wp_ret_weak (re_sb_nil _) z)
set_option maxRecDepth 20000 in
theorem B460_120 {SC : List Value} {d s : Nat} {h : re_H} {Q : Nat → Value → re_H → Prop} {xs0 : Int32}
    (hz : xs0 = 0 ∨ xs0 = 1) (K : Q 1 (.int xs0) h) : wp SC 460 d s 120 [] [.int xs0] h Q := by
  exact wp_retz ⟨rfl, rfl⟩ rfl hz K
set_option maxRecDepth 20000 in
theorem B460_121 {SC : List Value} {d s : Nat} {h : re_H} {Q : Nat → Value → re_H → Prop} {a0 : Nat} {v1 : Value} (r1 : re_R v1) {v2 : Value} (r2 : re_R v2)
    {c : Nat} {w : List Value} (eg : re_hg h a0 = some (c, w)) (ec : c = 7) (K : wp SC 452 d 0 0 [(0, .ref a0), (1, v1), (2, v2), (3, .int (i32 1))] [] h (wp_ret SC 460 (d + 1) s 128 [(0, .ref a0), (1, v1), (2, v2)] [] Q)) : wp SC 460 (d + 1) s 121 [(0, .ref a0), (1, v1), (2, v2)] [] h Q := by
  refine wp_run 1 (pc' := 122) (lv' := [(0, .ref a0), (1, v1), (2, v2)]) (st' := [.ref a0]) rfl ?_
  refine wp_alR (ins := .aload_n 1) (k := 1) (pc' := 123) ⟨rfl, rfl⟩ (Or.inr ⟨_, rfl, rfl, rfl⟩) rfl r1 ?_
  refine wp_alR (ins := .aload_n 2) (k := 2) (pc' := 124) ⟨rfl, rfl⟩ (Or.inr ⟨_, rfl, rfl, rfl⟩) rfl r2 ?_
  refine wp_run 1 (pc' := 125) (lv' := [(0, .ref a0), (1, v1), (2, v2)]) (st' := [.int (i32 1), v2, v1, .ref a0]) rfl ?_
  have eA : lv_args 0 (.ref a0 :: [.int (i32 1), v2, v1].reverse) = [(0, .ref a0), (1, v1), (2, v2), (3, .int (i32 1))] := by simp [lv_args, vc_i, vc_l, vc_r, vc_n, vc_a, re_R_cat r2, re_R_cat r1]
  refine wp_callV (ar := [.int (i32 1), v2, v1]) (rest := []) (s1 := 0) (s2 := s) (d' := d) ⟨rfl, rfl⟩ rfl (Or.inl rfl)  (by simp [re_cat, vc_i, vc_l, vc_r, vc_n, vc_a]) (by rw [show re_cat (.ref a0 :: [.int (i32 1), v2, v1].reverse) = 4 from by simp [re_cat, vc_i, vc_l, vc_r, vc_n, vc_a, re_R_cat r2, re_R_cat r1]]; decide) (by decide) rfl eg ec rfl (Nat.le_of_eq (Nat.zero_add s)) ?_
  rw [eA]
  exact wp_mono K (fun k v h' z => wp_ret_weak (re_sb_at rfl (re_sb_at rfl (re_sb_at rfl (re_sb_nil _)))) z)
set_option maxRecDepth 20000 in
theorem B460_128 {SC : List Value} {d s : Nat} {h : re_H} {Q : Nat → Value → re_H → Prop} {a0 : Nat} {v1 : Value} (r1 : re_R v1) {v2 : Value} (r2 : re_R v2)
    {b1 : Nat} (n1 : v1 = .ref b1) {ve2 : Value} (re2 : re_R ve2) (e3 : nb_fd h b1 9 4 (ve2)) {c : Nat} {w : List Value} (eg : re_hg h a0 = some (c, w)) (ec : c = 7) (K : wp SC 452 d 0 0 [(0, .ref a0), (1, ve2), (2, v2), (3, .int (i32 0))] [] h (wp_ret SC 460 (d + 1) s 138 [(0, .ref a0), (1, .ref b1), (2, v2)] [] Q)) : wp SC 460 (d + 1) s 128 [(0, .ref a0), (1, v1), (2, v2)] [] h Q := by
  refine wp_run 1 (pc' := 129) (lv' := [(0, .ref a0), (1, v1), (2, v2)]) (st' := [.ref a0]) rfl ?_
  refine wp_alR (ins := .aload_n 1) (k := 1) (pc' := 130) ⟨rfl, rfl⟩ (Or.inr ⟨_, rfl, rfl, rfl⟩) rfl r1 ?_
  subst n1
  obtain ⟨w3, e3a, e3b⟩ := e3
  refine wp_gf ⟨rfl, rfl⟩ rfl e3a e3b ?_
  refine wp_alR (ins := .aload_n 2) (k := 2) (pc' := 134) ⟨rfl, rfl⟩ (Or.inr ⟨_, rfl, rfl, rfl⟩) rfl r2 ?_
  refine wp_run 1 (pc' := 135) (lv' := [(0, .ref a0), (1, .ref b1), (2, v2)]) (st' := [.int (i32 0), v2, ve2, .ref a0]) rfl ?_
  have eA : lv_args 0 (.ref a0 :: [.int (i32 0), v2, ve2].reverse) = [(0, .ref a0), (1, ve2), (2, v2), (3, .int (i32 0))] := by simp [lv_args, vc_i, vc_l, vc_r, vc_n, vc_a, re_R_cat r2, re_R_cat re2]
  refine wp_callV (ar := [.int (i32 0), v2, ve2]) (rest := []) (s1 := 0) (s2 := s) (d' := d) ⟨rfl, rfl⟩ rfl (Or.inl rfl)  (by simp [re_cat, vc_i, vc_l, vc_r, vc_n, vc_a]) (by rw [show re_cat (.ref a0 :: [.int (i32 0), v2, ve2].reverse) = 4 from by simp [re_cat, vc_i, vc_l, vc_r, vc_n, vc_a, re_R_cat r2, re_R_cat re2]]; decide) (by decide) rfl eg ec rfl (Nat.le_of_eq (Nat.zero_add s)) ?_
  rw [eA]
  exact wp_mono K (fun k v h' z => wp_ret_weak (re_sb_at rfl (re_sb_at rfl (re_sb_at rfl (re_sb_nil _)))) z)
set_option maxRecDepth 20000 in
theorem B460_138 {SC : List Value} {d s : Nat} {h : re_H} {Q : Nat → Value → re_H → Prop} {a0 : Nat} {v1 : Value} (r1 : re_R v1) {v2 : Value} (r2 : re_R v2)
    {b1 : Nat} (n1 : v1 = .ref b1) {ve2 : Value} (re2 : re_R ve2) (e3 : nb_fd h b1 9 3 (ve2)) {c : Nat} {w : List Value} (eg : re_hg h a0 = some (c, w)) (ec : c = 7) (K : wp SC 452 d 0 0 [(0, .ref a0), (1, ve2), (2, v2), (3, .int (i32 0))] [] h (wp_ret SC 460 (d + 1) s 148 [] [] Q)) : wp SC 460 (d + 1) s 138 [(0, .ref a0), (1, v1), (2, v2)] [] h Q := by
  refine wp_run 1 (pc' := 139) (lv' := [(0, .ref a0), (1, v1), (2, v2)]) (st' := [.ref a0]) rfl ?_
  refine wp_alR (ins := .aload_n 1) (k := 1) (pc' := 140) ⟨rfl, rfl⟩ (Or.inr ⟨_, rfl, rfl, rfl⟩) rfl r1 ?_
  subst n1
  obtain ⟨w3, e3a, e3b⟩ := e3
  refine wp_gf ⟨rfl, rfl⟩ rfl e3a e3b ?_
  refine wp_alR (ins := .aload_n 2) (k := 2) (pc' := 144) ⟨rfl, rfl⟩ (Or.inr ⟨_, rfl, rfl, rfl⟩) rfl r2 ?_
  refine wp_run 1 (pc' := 145) (lv' := [(0, .ref a0), (1, .ref b1), (2, v2)]) (st' := [.int (i32 0), v2, ve2, .ref a0]) rfl ?_
  have eA : lv_args 0 (.ref a0 :: [.int (i32 0), v2, ve2].reverse) = [(0, .ref a0), (1, ve2), (2, v2), (3, .int (i32 0))] := by simp [lv_args, vc_i, vc_l, vc_r, vc_n, vc_a, re_R_cat r2, re_R_cat re2]
  refine wp_callV (ar := [.int (i32 0), v2, ve2]) (rest := []) (s1 := 0) (s2 := s) (d' := d) ⟨rfl, rfl⟩ rfl (Or.inl rfl)  (by simp [re_cat, vc_i, vc_l, vc_r, vc_n, vc_a]) (by rw [show re_cat (.ref a0 :: [.int (i32 0), v2, ve2].reverse) = 4 from by simp [re_cat, vc_i, vc_l, vc_r, vc_n, vc_a, re_R_cat r2, re_R_cat re2]]; decide) (by decide) rfl eg ec rfl (Nat.le_of_eq (Nat.zero_add s)) ?_
  rw [eA]
  exact wp_mono K (fun k v h' z => wp_ret_weak (re_sb_nil _) z)
set_option maxRecDepth 20000 in
theorem B460_148 {SC : List Value} {d s : Nat} {h : re_H} {Q : Nat → Value → re_H → Prop} 
    (K : Q 1 (.int (i32 1)) h) : wp SC 460 d s 148 [] [] h Q := by
  refine wp_run 1 (pc' := 149) (lv' := []) (st' := [.int (i32 1)]) rfl ?_
  exact wp_retz ⟨rfl, rfl⟩ rfl (Or.inr rfl) K
set_option maxRecDepth 20000 in
theorem B460_150 {SC : List Value} {d s : Nat} {h : re_H} {Q : Nat → Value → re_H → Prop} {a0 : Nat} {v1 : Value} (r1 : re_R v1) {v2 : Value} (r2 : re_R v2)
    {c : Nat} {w : List Value} (eg : re_hg h a0 = some (c, w)) (ec : c = 7) (K : wp SC 452 d 0 0 [(0, .ref a0), (1, v1), (2, v2), (3, .int (i32 1))] [] h (wp_ret SC 460 (d + 1) s 157 [(0, .ref a0), (1, v1), (2, v2)] [] Q)) : wp SC 460 (d + 1) s 150 [(0, .ref a0), (1, v1), (2, v2)] [] h Q := by
  refine wp_run 1 (pc' := 151) (lv' := [(0, .ref a0), (1, v1), (2, v2)]) (st' := [.ref a0]) rfl ?_
  refine wp_alR (ins := .aload_n 1) (k := 1) (pc' := 152) ⟨rfl, rfl⟩ (Or.inr ⟨_, rfl, rfl, rfl⟩) rfl r1 ?_
  refine wp_alR (ins := .aload_n 2) (k := 2) (pc' := 153) ⟨rfl, rfl⟩ (Or.inr ⟨_, rfl, rfl, rfl⟩) rfl r2 ?_
  refine wp_run 1 (pc' := 154) (lv' := [(0, .ref a0), (1, v1), (2, v2)]) (st' := [.int (i32 1), v2, v1, .ref a0]) rfl ?_
  have eA : lv_args 0 (.ref a0 :: [.int (i32 1), v2, v1].reverse) = [(0, .ref a0), (1, v1), (2, v2), (3, .int (i32 1))] := by simp [lv_args, vc_i, vc_l, vc_r, vc_n, vc_a, re_R_cat r2, re_R_cat r1]
  refine wp_callV (ar := [.int (i32 1), v2, v1]) (rest := []) (s1 := 0) (s2 := s) (d' := d) ⟨rfl, rfl⟩ rfl (Or.inl rfl)  (by simp [re_cat, vc_i, vc_l, vc_r, vc_n, vc_a]) (by rw [show re_cat (.ref a0 :: [.int (i32 1), v2, v1].reverse) = 4 from by simp [re_cat, vc_i, vc_l, vc_r, vc_n, vc_a, re_R_cat r2, re_R_cat r1]]; decide) (by decide) rfl eg ec rfl (Nat.le_of_eq (Nat.zero_add s)) ?_
  rw [eA]
  exact wp_mono K (fun k v h' z => wp_ret_weak (re_sb_at rfl (re_sb_at rfl (re_sb_at rfl (re_sb_nil _)))) z)
set_option maxRecDepth 20000 in
theorem B460_157 {SC : List Value} {d s : Nat} {h : re_H} {Q : Nat → Value → re_H → Prop} {a0 : Nat} {v1 : Value} (r1 : re_R v1) {v2 : Value} (r2 : re_R v2)
    {b1 : Nat} (n1 : v1 = .ref b1) {ve2 : Value} (re2 : re_R ve2) (e3 : nb_fd h b1 9 3 (ve2)) {c : Nat} {w : List Value} (eg : re_hg h a0 = some (c, w)) (ec : c = 7) (K : wp SC 452 d 0 0 [(0, .ref a0), (1, ve2), (2, v2), (3, .int (i32 0))] [] h (wp_ret SC 460 (d + 1) s 167 [] [] Q)) : wp SC 460 (d + 1) s 157 [(0, .ref a0), (1, v1), (2, v2)] [] h Q := by
  refine wp_run 1 (pc' := 158) (lv' := [(0, .ref a0), (1, v1), (2, v2)]) (st' := [.ref a0]) rfl ?_
  refine wp_alR (ins := .aload_n 1) (k := 1) (pc' := 159) ⟨rfl, rfl⟩ (Or.inr ⟨_, rfl, rfl, rfl⟩) rfl r1 ?_
  subst n1
  obtain ⟨w3, e3a, e3b⟩ := e3
  refine wp_gf ⟨rfl, rfl⟩ rfl e3a e3b ?_
  refine wp_alR (ins := .aload_n 2) (k := 2) (pc' := 163) ⟨rfl, rfl⟩ (Or.inr ⟨_, rfl, rfl, rfl⟩) rfl r2 ?_
  refine wp_run 1 (pc' := 164) (lv' := [(0, .ref a0), (1, .ref b1), (2, v2)]) (st' := [.int (i32 0), v2, ve2, .ref a0]) rfl ?_
  have eA : lv_args 0 (.ref a0 :: [.int (i32 0), v2, ve2].reverse) = [(0, .ref a0), (1, ve2), (2, v2), (3, .int (i32 0))] := by simp [lv_args, vc_i, vc_l, vc_r, vc_n, vc_a, re_R_cat r2, re_R_cat re2]
  refine wp_callV (ar := [.int (i32 0), v2, ve2]) (rest := []) (s1 := 0) (s2 := s) (d' := d) ⟨rfl, rfl⟩ rfl (Or.inl rfl)  (by simp [re_cat, vc_i, vc_l, vc_r, vc_n, vc_a]) (by rw [show re_cat (.ref a0 :: [.int (i32 0), v2, ve2].reverse) = 4 from by simp [re_cat, vc_i, vc_l, vc_r, vc_n, vc_a, re_R_cat r2, re_R_cat re2]]; decide) (by decide) rfl eg ec rfl (Nat.le_of_eq (Nat.zero_add s)) ?_
  rw [eA]
  exact wp_mono K (fun k v h' z => wp_ret_weak (re_sb_nil _) z)
set_option maxRecDepth 20000 in
theorem B460_167 {SC : List Value} {d s : Nat} {h : re_H} {Q : Nat → Value → re_H → Prop} 
    (K : Q 1 (.int (i32 1)) h) : wp SC 460 d s 167 [] [] h Q := by
  refine wp_run 1 (pc' := 168) (lv' := []) (st' := [.int (i32 1)]) rfl ?_
  exact wp_retz ⟨rfl, rfl⟩ rfl (Or.inr rfl) K
theorem B461_0 {SC : List Value} {d s : Nat} {h : re_H} {Q : Nat → Value → re_H → Prop} {a0 : Nat} {x1 : Int32} {v2 : Value} (r2 : re_R v2)
    (K : wp SC 461 d s 2 [(0, .ref a0), (1, .int x1), (3, v2)] [] h Q) : wp SC 461 d s 0 [(0, .ref a0), (1, .int x1), (2, v2)] [] h Q := by
  refine wp_alR (ins := .aload_n 2) (k := 2) (pc' := 1) ⟨rfl, rfl⟩ (Or.inr ⟨_, rfl, rfl, rfl⟩) rfl r2 ?_
  refine wp_asR (ins := .astore_n 3) (k := 3) (pc' := 2) (lv' := [(3, v2), (0, .ref a0), (1, .int x1), (2, v2)]) ⟨rfl, rfl⟩ (Or.inr ⟨_, rfl, rfl, rfl⟩) (by decide) r2 (by simp [re_s1, re_c2, re_lk, vc_i, vc_l, vc_r, vc_n, vc_a, re_R_cat r2]) ?_
  exact wp_weak (re_sb_at rfl (re_sb_at rfl (re_sb_at rfl (re_sb_nil _)))) K
theorem B461_2 {SC : List Value} {d s : Nat} {h : re_H} {Q : Nat → Value → re_H → Prop} {a0 : Nat} {x1 : Int32} {v3 : Value} (r3 : re_R v3)
    (K1 : v3 = .null → wp SC 461 d s 35 [] [] h Q) (K2 : ∀ b1, v3 = .ref b1 → wp SC 461 d s 6 [(0, .ref a0), (1, .int x1), (3, .ref b1)] [] h Q) : wp SC 461 d s 2 [(0, .ref a0), (1, .int x1), (3, v3)] [] h Q := by
  refine wp_alR (ins := .aload_n 3) (k := 3) (pc' := 3) ⟨rfl, rfl⟩ (Or.inr ⟨_, rfl, rfl, rfl⟩) rfl r3 ?_
  exact wp_ifn ⟨rfl, rfl⟩ rfl r3 (fun hc => by subst hc; exact wp_weak (re_sb_nil _) (K1 rfl)) (fun bb hc => by subst hc; exact wp_weak (re_sb_at rfl (re_sb_at rfl (re_sb_at rfl (re_sb_nil _)))) (K2 bb rfl))
theorem B461_6 {SC : List Value} {d s : Nat} {h : re_H} {Q : Nat → Value → re_H → Prop} {a0 : Nat} {x1 : Int32} {a3 : Nat}
    {xe1 : Int32} (e2 : nb_fd h a3 10 1 (.int xe1)) (K1 : ¬ xe1 = x1 → wp SC 461 d s 27 [(0, .ref a0), (1, .int x1), (3, .ref a3)] [] h Q) (K2 : xe1 = x1 → wp SC 461 d s 14 [(0, .ref a0), (3, .ref a3)] [] h Q) : wp SC 461 d s 6 [(0, .ref a0), (1, .int x1), (3, .ref a3)] [] h Q := by
  refine wp_run 1 (pc' := 7) (lv' := [(0, .ref a0), (1, .int x1), (3, .ref a3)]) (st' := [.ref a3]) rfl ?_
  obtain ⟨w2, e2a, e2b⟩ := e2
  refine wp_gf ⟨rfl, rfl⟩ rfl e2a e2b ?_
  refine wp_run 1 (pc' := 11) (lv' := [(0, .ref a0), (1, .int x1), (3, .ref a3)]) (st' := [.int x1, .int xe1]) rfl ?_
  exact wp_cmp ⟨rfl, rfl⟩ rfl (fun hc => wp_weak (re_sb_at rfl (re_sb_at rfl (re_sb_at rfl (re_sb_nil _)))) (K1 (ic1_ne hc))) (fun hc => wp_weak (re_sb_at rfl (re_sb_at rfl (re_sb_nil _))) (K2 (ic0_ne hc)))
theorem B461_14 {SC : List Value} {d s : Nat} {h : re_H} {Q : Nat → Value → re_H → Prop} {a0 : Nat} {a3 : Nat}
    {le1 : Int64} (e2 : nb_fd h a3 10 2 (.long le1)) {ve3 : Value} (re3 : re_R ve3) (e4 : nb_fd h a3 10 3 (ve3)) {c : Nat} {w : List Value} (eg : re_hg h a0 = some (c, w)) (ec : c = 7) (K : wp SC 455 d 0 0 [(0, .ref a0), (1, .long le1), (3, ve3)] [] h (wp_ret SC 461 (d + 1) s 26 [] [] Q)) : wp SC 461 (d + 1) s 14 [(0, .ref a0), (3, .ref a3)] [] h Q := by
  refine wp_run 2 (pc' := 16) (lv' := [(0, .ref a0), (3, .ref a3)]) (st' := [.ref a3, .ref a0]) rfl ?_
  obtain ⟨w2, e2a, e2b⟩ := e2
  refine wp_gf ⟨rfl, rfl⟩ rfl e2a e2b ?_
  refine wp_run 1 (pc' := 20) (lv' := [(0, .ref a0), (3, .ref a3)]) (st' := [.ref a3, .long le1, .ref a0]) rfl ?_
  obtain ⟨w4, e4a, e4b⟩ := e4
  refine wp_gf ⟨rfl, rfl⟩ rfl e4a e4b ?_
  have eA : lv_args 0 (.ref a0 :: [ve3, .long le1].reverse) = [(0, .ref a0), (1, .long le1), (3, ve3)] := by simp [lv_args, vc_i, vc_l, vc_r, vc_n, vc_a, re_R_cat re3]
  refine wp_callV (ar := [ve3, .long le1]) (rest := []) (s1 := 0) (s2 := s) (d' := d) ⟨rfl, rfl⟩ rfl (Or.inl rfl)  (by simp [re_cat, vc_i, vc_l, vc_r, vc_n, vc_a]) (by rw [show re_cat (.ref a0 :: [ve3, .long le1].reverse) = 4 from by simp [re_cat, vc_i, vc_l, vc_r, vc_n, vc_a, re_R_cat re3]]; decide) (by decide) rfl eg ec rfl (Nat.le_of_eq (Nat.zero_add s)) ?_
  rw [eA]
  exact wp_mono K (fun k v h' z => wp_ret_weak (re_sb_nil _) z)
theorem B461_26 {SC : List Value} {d s : Nat} {h : re_H} {Q : Nat → Value → re_H → Prop} {xs0 : Int32}
    (hz : xs0 = 0 ∨ xs0 = 1) (K : Q 1 (.int xs0) h) : wp SC 461 d s 26 [] [.int xs0] h Q := by
  exact wp_retz ⟨rfl, rfl⟩ rfl hz K
theorem B461_27 {SC : List Value} {d s : Nat} {h : re_H} {Q : Nat → Value → re_H → Prop} {a0 : Nat} {x1 : Int32} {a3 : Nat}
    {ve1 : Value} (re1 : re_R ve1) (e2 : nb_fd h a3 10 4 (ve1)) (K : wp SC 461 d s 2 [(0, .ref a0), (1, .int x1), (3, ve1)] [] h Q) : wp SC 461 d s 27 [(0, .ref a0), (1, .int x1), (3, .ref a3)] [] h Q := by
  refine wp_run 1 (pc' := 28) (lv' := [(0, .ref a0), (1, .int x1), (3, .ref a3)]) (st' := [.ref a3]) rfl ?_
  obtain ⟨w2, e2a, e2b⟩ := e2
  refine wp_gf ⟨rfl, rfl⟩ rfl e2a e2b ?_
  refine wp_asR (ins := .astore_n 3) (k := 3) (pc' := 32) (lv' := [(3, ve1), (0, .ref a0), (1, .int x1)]) ⟨rfl, rfl⟩ (Or.inr ⟨_, rfl, rfl, rfl⟩) (by decide) re1 rfl ?_
  refine wp_run 1 (pc' := 2) (lv' := [(3, ve1), (0, .ref a0), (1, .int x1)]) (st' := []) rfl ?_
  exact wp_weak (re_sb_at rfl (re_sb_at rfl (re_sb_at rfl (re_sb_nil _)))) K
theorem B461_35 {SC : List Value} {d s : Nat} {h : re_H} {Q : Nat → Value → re_H → Prop} 
    (K : Q 1 (.int (i32 0)) h) : wp SC 461 d s 35 [] [] h Q := by
  refine wp_run 1 (pc' := 36) (lv' := []) (st' := [.int (i32 0)]) rfl ?_
  exact wp_retz ⟨rfl, rfl⟩ rfl (Or.inl rfl) K
theorem B462_0 {SC : List Value} {d s : Nat} {h : re_H} {Q : Nat → Value → re_H → Prop} {a0 : Nat} {v1 : Value} (r1 : re_R v1) {v2 : Value} (r2 : re_R v2)
    {ae1 : Nat} (e2 : nb_fd h a0 7 0 (.ref ae1)) {b3 : Nat} (n3 : v1 = .ref b3) {xe4 : Int32} (e5 : nb_fd h b3 9 1 (.int xe4)) {le6 : Int64} (e7 : nb_fd h a0 7 13 (.long le6)) {c : Nat} {w : List Value} (eg : re_hg h ae1 = some (c, w)) (ec : c = 6) (K : wp SC 388 d 0 0 [(0, .ref ae1), (1, .int xe4), (2, .long le6), (4, .null), (5, v2)] [] h (wp_ret SC 462 (d + 1) s 17 [(0, .ref a0), (1, .ref b3)] [] Q)) : wp SC 462 (d + 1) s 0 [(0, .ref a0), (1, v1), (2, v2)] [] h Q := by
  refine wp_run 1 (pc' := 1) (lv' := [(0, .ref a0), (1, v1), (2, v2)]) (st' := [.ref a0]) rfl ?_
  obtain ⟨w2, e2a, e2b⟩ := e2
  refine wp_gf ⟨rfl, rfl⟩ rfl e2a e2b ?_
  refine wp_alR (ins := .aload_n 1) (k := 1) (pc' := 5) ⟨rfl, rfl⟩ (Or.inr ⟨_, rfl, rfl, rfl⟩) rfl r1 ?_
  subst n3
  obtain ⟨w5, e5a, e5b⟩ := e5
  refine wp_gf ⟨rfl, rfl⟩ rfl e5a e5b ?_
  refine wp_run 1 (pc' := 9) (lv' := [(0, .ref a0), (1, .ref b3), (2, v2)]) (st' := [.ref a0, .int xe4, .ref ae1]) rfl ?_
  obtain ⟨w7, e7a, e7b⟩ := e7
  refine wp_gf ⟨rfl, rfl⟩ rfl e7a e7b ?_
  refine wp_run 1 (pc' := 13) (lv' := [(0, .ref a0), (1, .ref b3), (2, v2)]) (st' := [.null, .long le6, .int xe4, .ref ae1]) rfl ?_
  refine wp_alR (ins := .aload_n 2) (k := 2) (pc' := 14) ⟨rfl, rfl⟩ (Or.inr ⟨_, rfl, rfl, rfl⟩) rfl r2 ?_
  have eA : lv_args 0 (.ref ae1 :: [v2, .null, .long le6, .int xe4].reverse) = [(0, .ref ae1), (1, .int xe4), (2, .long le6), (4, .null), (5, v2)] := by simp [lv_args, vc_i, vc_l, vc_r, vc_n, vc_a, re_R_cat r2]
  refine wp_callV (ar := [v2, .null, .long le6, .int xe4]) (rest := []) (s1 := 0) (s2 := s) (d' := d) ⟨rfl, rfl⟩ rfl (Or.inl rfl)  (by simp [re_cat, vc_i, vc_l, vc_r, vc_n, vc_a]) (by rw [show re_cat (.ref ae1 :: [v2, .null, .long le6, .int xe4].reverse) = 6 from by simp [re_cat, vc_i, vc_l, vc_r, vc_n, vc_a, re_R_cat r2]]; decide) (by decide) rfl eg ec rfl (Nat.le_of_eq (Nat.zero_add s)) ?_
  rw [eA]
  exact wp_mono K (fun k v h' z => wp_ret_weak (re_sb_at rfl (re_sb_at rfl (re_sb_nil _))) z)
theorem B462_17 {SC : List Value} {d s : Nat} {h : re_H} {Q : Nat → Value → re_H → Prop} {a0 : Nat} {v1 : Value} (r1 : re_R v1) {vs0 : Value} (rs0 : re_R vs0)
    {b1 : Nat} (n1 : vs0 = .ref b1) {w : List Value} (e : re_hg h b1 = some (10, w)) (hk : 0 < w.length) (K : wp SC 462 d s 23 [(0, .ref a0), (3, .ref b1)] [] (re_hw h b1 (10, w.set 0 (v1))) Q) : wp SC 462 d s 17 [(0, .ref a0), (1, v1)] [vs0] h Q := by
  refine wp_asR (ins := .astore_n 3) (k := 3) (pc' := 18) (lv' := [(3, vs0), (0, .ref a0), (1, v1)]) ⟨rfl, rfl⟩ (Or.inr ⟨_, rfl, rfl, rfl⟩) (by decide) rs0 rfl ?_
  refine wp_alR (ins := .aload_n 3) (k := 3) (pc' := 19) ⟨rfl, rfl⟩ (Or.inr ⟨_, rfl, rfl, rfl⟩) rfl rs0 ?_
  refine wp_alR (ins := .aload_n 1) (k := 1) (pc' := 20) ⟨rfl, rfl⟩ (Or.inr ⟨_, rfl, rfl, rfl⟩) rfl r1 ?_
  subst n1
  exact wp_pf ⟨rfl, rfl⟩ rfl (Or.inl rfl) e hk (fit_o r1) (wp_weak (re_sb_at rfl (re_sb_at rfl (re_sb_nil _))) K)
theorem B462_23 {SC : List Value} {d s : Nat} {h : re_H} {Q : Nat → Value → re_H → Prop} {a0 : Nat} {v3 : Value} (r3 : re_R v3)
    {le1 : Int64} (e2 : nb_fd h a0 7 13 (.long le1)) {w : List Value} (e : re_hg h a0 = some (7, w)) (hk : 13 < w.length) (K : wp SC 462 d s 33 [(0, .ref a0), (3, v3)] [] (re_hw h a0 (7, w.set 13 (.long (le1 + (1))))) Q) : wp SC 462 d s 23 [(0, .ref a0), (3, v3)] [] h Q := by
  refine wp_run 2 (pc' := 25) (lv' := [(0, .ref a0), (3, v3)]) (st' := [.ref a0, .ref a0]) rfl ?_
  obtain ⟨w2, e2a, e2b⟩ := e2
  refine wp_gf ⟨rfl, rfl⟩ rfl e2a e2b ?_
  refine wp_run 2 (pc' := 30) (lv' := [(0, .ref a0), (3, v3)]) (st' := [.long (le1 + (1)), .ref a0]) rfl ?_
  exact wp_pf ⟨rfl, rfl⟩ rfl (Or.inl rfl) e hk (fit_l _) (wp_weak (re_sb_at rfl (re_sb_at rfl (re_sb_nil _))) K)
theorem B462_33 {SC : List Value} {d s : Nat} {h : re_H} {Q : Nat → Value → re_H → Prop} {a0 : Nat} {v3 : Value} (r3 : re_R v3)
    {c : Nat} {w : List Value} (eg : re_hg h a0 = some (c, w)) (ec : c = 7) (K : wp SC 455 d 0 0 [(0, .ref a0), (1, .long (0)), (3, v3)] [] h (wp_ret SC 462 (d + 1) s 39 [] [] Q)) : wp SC 462 (d + 1) s 33 [(0, .ref a0), (3, v3)] [] h Q := by
  refine wp_run 2 (pc' := 35) (lv' := [(0, .ref a0), (3, v3)]) (st' := [.long (0), .ref a0]) rfl ?_
  refine wp_alR (ins := .aload_n 3) (k := 3) (pc' := 36) ⟨rfl, rfl⟩ (Or.inr ⟨_, rfl, rfl, rfl⟩) rfl r3 ?_
  have eA : lv_args 0 (.ref a0 :: [v3, .long (0)].reverse) = [(0, .ref a0), (1, .long (0)), (3, v3)] := by simp [lv_args, vc_i, vc_l, vc_r, vc_n, vc_a, re_R_cat r3]
  refine wp_callV (ar := [v3, .long (0)]) (rest := []) (s1 := 0) (s2 := s) (d' := d) ⟨rfl, rfl⟩ rfl (Or.inl rfl)  (by simp [re_cat, vc_i, vc_l, vc_r, vc_n, vc_a]) (by rw [show re_cat (.ref a0 :: [v3, .long (0)].reverse) = 4 from by simp [re_cat, vc_i, vc_l, vc_r, vc_n, vc_a, re_R_cat r3]]; decide) (by decide) rfl eg ec rfl (Nat.le_of_eq (Nat.zero_add s)) ?_
  rw [eA]
  exact wp_mono K (fun k v h' z => wp_ret_weak (re_sb_nil _) z)
theorem B462_39 {SC : List Value} {d s : Nat} {h : re_H} {Q : Nat → Value → re_H → Prop} {xs0 : Int32}
    (hz : xs0 = 0 ∨ xs0 = 1) (K : Q 1 (.int xs0) h) : wp SC 462 d s 39 [] [.int xs0] h Q := by
  exact wp_retz ⟨rfl, rfl⟩ rfl hz K
theorem B463_0 {SC : List Value} {d s : Nat} {h : re_H} {Q : Nat → Value → re_H → Prop} {a0 : Nat}
    {ae1 : Nat} (e2 : nb_fd h a0 7 6 (.ref ae1)) {le3 : Int64} (e4 : nb_ar h ae1 101 (i32 0) (.long le3)) (K : Q 2 (.long le3) h) : wp SC 463 d s 0 [(0, .ref a0)] [] h Q := by
  refine wp_run 1 (pc' := 1) (lv' := [(0, .ref a0)]) (st' := [.ref a0]) rfl ?_
  obtain ⟨w2, e2a, e2b⟩ := e2
  refine wp_gf ⟨rfl, rfl⟩ rfl e2a e2b ?_
  refine wp_run 1 (pc' := 5) (lv' := [(0, .ref a0)]) (st' := [.int (i32 0), .ref ae1]) rfl ?_
  obtain ⟨w4, i4, e4a, e4x, e4i, e4v⟩ := e4
  refine wp_lal ⟨rfl, rfl⟩ e4a rfl e4x e4i e4v ?_
  exact wp_retl ⟨rfl, rfl⟩ rfl K
theorem B464_0 {SC : List Value} {d s : Nat} {h : re_H} {Q : Nat → Value → re_H → Prop} {a0 : Nat}
    {ae1 : Nat} (e2 : nb_fd h a0 7 7 (.ref ae1)) {ve3 : Value} (re3 : re_R ve3) (e4 : nb_ar h ae1 106 (i32 0) (ve3)) (K : Q 3 ve3 h) : wp SC 464 d s 0 [(0, .ref a0)] [] h Q := by
  refine wp_run 1 (pc' := 1) (lv' := [(0, .ref a0)]) (st' := [.ref a0]) rfl ?_
  obtain ⟨w2, e2a, e2b⟩ := e2
  refine wp_gf ⟨rfl, rfl⟩ rfl e2a e2b ?_
  refine wp_run 1 (pc' := 5) (lv' := [(0, .ref a0)]) (st' := [.int (i32 0), .ref ae1]) rfl ?_
  obtain ⟨w4, i4, e4a, e4x, e4i, e4v⟩ := e4
  refine wp_aal ⟨rfl, rfl⟩ e4a ⟨by decide, by decide⟩ e4x e4i e4v ?_
  exact wp_reta ⟨rfl, rfl⟩ rfl re3 K
