set_option maxRecDepth 20000 in
theorem B582_0 {SC : List Value} {d s : Nat} {h : re_H} {Q : Nat → Value → re_H → Prop} {a0 : Nat} {x1 : Int32} {x2 : Int32} {x3 : Int32}
    (K : wp SC 582 d s 6 [(0, .ref a0), (1, .int x1), (2, .int x2), (3, .int x3), (4, .int (i32 1)), (5, .int (i32 0))] [] h Q) : wp SC 582 d s 0 [(0, .ref a0), (1, .int x1), (2, .int x2), (3, .int x3)] [] h Q := by
  refine wp_run 4 (pc' := 6) (lv' := [(5, .int (i32 0)), (4, .int (i32 1)), (0, .ref a0), (1, .int x1), (2, .int x2), (3, .int x3)]) (st' := []) rfl ?_
  exact wp_weak (re_sb_at rfl (re_sb_at rfl (re_sb_at rfl (re_sb_at rfl (re_sb_at rfl (re_sb_at rfl (re_sb_nil _))))))) K
set_option maxRecDepth 20000 in
theorem B582_6 {SC : List Value} {d s : Nat} {h : re_H} {Q : Nat → Value → re_H → Prop} {a0 : Nat} {x1 : Int32} {x2 : Int32} {x3 : Int32} {x4 : Int32} {x5 : Int32}
    (K1 : ¬ x5 < x1 → wp SC 582 d s 334 [(4, .int x4)] [] h Q) (K2 : x5 < x1 → wp SC 582 d s 12 [(0, .ref a0), (1, .int x1), (2, .int x2), (3, .int x3), (4, .int x4), (5, .int x5)] [] h Q) : wp SC 582 d s 6 [(0, .ref a0), (1, .int x1), (2, .int x2), (3, .int x3), (4, .int x4), (5, .int x5)] [] h Q := by
  refine wp_run 2 (pc' := 9) (lv' := [(0, .ref a0), (1, .int x1), (2, .int x2), (3, .int x3), (4, .int x4), (5, .int x5)]) (st' := [.int x1, .int x5]) rfl ?_
  exact wp_cmp ⟨rfl, rfl⟩ rfl (fun hc => wp_weak (re_sb_at rfl (re_sb_nil _)) (K1 (ic1_ge hc))) (fun hc => wp_weak (re_sb_at rfl (re_sb_at rfl (re_sb_at rfl (re_sb_at rfl (re_sb_at rfl (re_sb_at rfl (re_sb_nil _))))))) (K2 (ic0_ge hc)))
set_option maxRecDepth 20000 in
theorem B582_12 {SC : List Value} {d s : Nat} {h : re_H} {Q : Nat → Value → re_H → Prop} {a0 : Nat} {x1 : Int32} {x2 : Int32} {x3 : Int32} {x4 : Int32} {x5 : Int32}
    (K1 : x4 = 0 → wp SC 582 d s 334 [(4, .int x4)] [] h Q) (K2 : ¬ x4 = 0 → wp SC 582 d s 17 [(0, .ref a0), (1, .int x1), (2, .int x2), (3, .int x3), (4, .int x4), (5, .int x5)] [] h Q) : wp SC 582 d s 12 [(0, .ref a0), (1, .int x1), (2, .int x2), (3, .int x3), (4, .int x4), (5, .int x5)] [] h Q := by
  refine wp_run 1 (pc' := 14) (lv' := [(0, .ref a0), (1, .int x1), (2, .int x2), (3, .int x3), (4, .int x4), (5, .int x5)]) (st' := [.int x4]) rfl ?_
  exact wp_if ⟨rfl, rfl⟩ rfl (fun hc => wp_weak (re_sb_at rfl (re_sb_nil _)) (K1 (ic1_eq hc))) (fun hc => wp_weak (re_sb_at rfl (re_sb_at rfl (re_sb_at rfl (re_sb_at rfl (re_sb_at rfl (re_sb_at rfl (re_sb_nil _))))))) (K2 (ic0_eq hc)))
set_option maxRecDepth 20000 in
theorem B582_17 {SC : List Value} {d s : Nat} {h : re_H} {Q : Nat → Value → re_H → Prop} {a0 : Nat} {x1 : Int32} {x2 : Int32} {x3 : Int32} {x4 : Int32} {x5 : Int32}
    (K : wp SC 579 d 0 0 [(0, .ref a0), (1, .int (i32 21)), (2, .int x5), (3, .int (i32 0))] [] h (wp_ret SC 582 (d + 1) s 26 [(0, .ref a0), (1, .int x1), (2, .int x2), (3, .int x3), (4, .int x4), (5, .int x5)] [] Q)) : wp SC 582 (d + 1) s 17 [(0, .ref a0), (1, .int x1), (2, .int x2), (3, .int x3), (4, .int x4), (5, .int x5)] [] h Q := by
  refine wp_run 1 (pc' := 18) (lv' := [(0, .ref a0), (1, .int x1), (2, .int x2), (3, .int x3), (4, .int x4), (5, .int x5)]) (st' := [.ref a0]) rfl ?_
  refine wp_bi (x := (i32 21)) ⟨rfl, rfl⟩ (by decide) ?_
  refine wp_run 2 (pc' := 23) (lv' := [(0, .ref a0), (1, .int x1), (2, .int x2), (3, .int x3), (4, .int x4), (5, .int x5)]) (st' := [.int (i32 0), .int x5, .int (i32 21), .ref a0]) rfl ?_
  have eA : lv_args 0 ([.int (i32 0), .int x5, .int (i32 21), .ref a0].reverse) = [(0, .ref a0), (1, .int (i32 21)), (2, .int x5), (3, .int (i32 0))] := by simp [lv_args, vc_i, vc_l, vc_r, vc_n, vc_a]
  refine wp_callS (ar := [.int (i32 0), .int x5, .int (i32 21), .ref a0]) (rest := []) (s1 := 0) (s2 := s) (d' := d) ⟨rfl, rfl⟩ rfl (Or.inr (Or.inr rfl)) rfl (by simp [re_cat, vc_i, vc_l, vc_r, vc_n, vc_a]) (by rw [show re_cat ([.int (i32 0), .int x5, .int (i32 21), .ref a0].reverse) = 4 from by simp [re_cat, vc_i, vc_l, vc_r, vc_n, vc_a]]; decide) (by decide) rfl rfl (Nat.le_of_eq (Nat.zero_add s)) ?_
  rw [eA]
  exact wp_mono K (fun k v h' z => wp_ret_weak (re_sb_at rfl (re_sb_at rfl (re_sb_at rfl (re_sb_at rfl (re_sb_at rfl (re_sb_at rfl (re_sb_nil _))))))) z)
set_option maxRecDepth 20000 in
theorem B582_26 {SC : List Value} {d s : Nat} {h : re_H} {Q : Nat → Value → re_H → Prop} {a0 : Nat} {x1 : Int32} {x2 : Int32} {x3 : Int32} {x4 : Int32} {x5 : Int32} {ls0 : Int64}
    (K1 : ls0 = (-2000000001) → wp SC 582 d s 328 [(0, .ref a0), (1, .int x1), (2, .int x2), (3, .int x3), (4, .int x4), (5, .int x5)] [] h Q) (K2 : ¬ ls0 = (-2000000001) → wp SC 582 d s 33 [(0, .ref a0), (1, .int x1), (2, .int x2), (3, .int x3), (5, .int x5)] [] h Q) : wp SC 582 d s 26 [(0, .ref a0), (1, .int x1), (2, .int x2), (3, .int x3), (4, .int x4), (5, .int x5)] [.long ls0] h Q := by
  refine wp_cst (pc' := 29) (v := .long (-2000000001)) ⟨rfl, rfl⟩ rfl rfl rfl rfl rfl ?_
  refine wp_run 1 (pc' := 30) (lv' := [(0, .ref a0), (1, .int x1), (2, .int x2), (3, .int x3), (4, .int x4), (5, .int x5)]) (st' := [.int (lg_cmp ls0 (-2000000001))]) rfl ?_
  exact wp_if ⟨rfl, rfl⟩ rfl (fun hc => wp_weak (re_sb_at rfl (re_sb_at rfl (re_sb_at rfl (re_sb_at rfl (re_sb_at rfl (re_sb_at rfl (re_sb_nil _))))))) (K1 (lc1_eq hc))) (fun hc => wp_weak (re_sb_at rfl (re_sb_at rfl (re_sb_at rfl (re_sb_at rfl (re_sb_at rfl (re_sb_nil _)))))) (K2 (lc0_eq hc)))
set_option maxRecDepth 20000 in
theorem B582_33 {SC : List Value} {d s : Nat} {h : re_H} {Q : Nat → Value → re_H → Prop} {a0 : Nat} {x1 : Int32} {x2 : Int32} {x3 : Int32} {x5 : Int32}
    {c : Nat} {w : List Value} (eg : re_hg h a0 = some (c, w)) (ec : c = 0) {s1 s2 : Nat} (hs : s1 + s2 ≤ s) (K : wp SC 31 d s1 0 [(0, .ref a0), (1, .int x5)] [] h (wp_ret SC 582 (d + 1) s2 39 [(0, .ref a0), (1, .int x1), (2, .int x2), (3, .int x3), (5, .int x5)] [] Q)) : wp SC 582 (d + 1) s 33 [(0, .ref a0), (1, .int x1), (2, .int x2), (3, .int x3), (5, .int x5)] [] h Q := by
  refine wp_run 2 (pc' := 36) (lv' := [(0, .ref a0), (1, .int x1), (2, .int x2), (3, .int x3), (5, .int x5)]) (st' := [.int x5, .ref a0]) rfl ?_
  have eA : lv_args 0 (.ref a0 :: [.int x5].reverse) = [(0, .ref a0), (1, .int x5)] := by simp [lv_args, vc_i, vc_l, vc_r, vc_n, vc_a]
  refine wp_callV (ar := [.int x5]) (rest := []) (s1 := s1) (s2 := s2) (d' := d) ⟨rfl, rfl⟩ rfl (Or.inl rfl)  (by simp [re_cat, vc_i, vc_l, vc_r, vc_n, vc_a]) (by rw [show re_cat (.ref a0 :: [.int x5].reverse) = 2 from by simp [re_cat, vc_i, vc_l, vc_r, vc_n, vc_a]]; decide) (by decide) rfl eg ec rfl hs ?_
  rw [eA]
  exact wp_mono K (fun k v h' z => wp_ret_weak (re_sb_at rfl (re_sb_at rfl (re_sb_at rfl (re_sb_at rfl (re_sb_at rfl (re_sb_nil _)))))) z)
set_option maxRecDepth 20000 in
theorem B582_39 {SC : List Value} {d s : Nat} {h : re_H} {Q : Nat → Value → re_H → Prop} {a0 : Nat} {x1 : Int32} {x2 : Int32} {x3 : Int32} {x5 : Int32} {xs0 : Int32}
    {c : Nat} {w : List Value} (eg : re_hg h a0 = some (c, w)) (ec : c = 0) {s1 s2 : Nat} (hs : s1 + s2 ≤ s) (K : wp SC 32 d s1 0 [(0, .ref a0), (1, .int x5)] [] h (wp_ret SC 582 (d + 1) s2 47 [(0, .ref a0), (1, .int x1), (2, .int x2), (3, .int x3), (5, .int x5), (6, .int xs0)] [] Q)) : wp SC 582 (d + 1) s 39 [(0, .ref a0), (1, .int x1), (2, .int x2), (3, .int x3), (5, .int x5)] [.int xs0] h Q := by
  refine wp_run 3 (pc' := 44) (lv' := [(6, .int xs0), (0, .ref a0), (1, .int x1), (2, .int x2), (3, .int x3), (5, .int x5)]) (st' := [.int x5, .ref a0]) rfl ?_
  have eA : lv_args 0 (.ref a0 :: [.int x5].reverse) = [(0, .ref a0), (1, .int x5)] := by simp [lv_args, vc_i, vc_l, vc_r, vc_n, vc_a]
  refine wp_callV (ar := [.int x5]) (rest := []) (s1 := s1) (s2 := s2) (d' := d) ⟨rfl, rfl⟩ rfl (Or.inl rfl)  (by simp [re_cat, vc_i, vc_l, vc_r, vc_n, vc_a]) (by rw [show re_cat (.ref a0 :: [.int x5].reverse) = 2 from by simp [re_cat, vc_i, vc_l, vc_r, vc_n, vc_a]]; decide) (by decide) rfl eg ec rfl hs ?_
  rw [eA]
  exact wp_mono K (fun k v h' z => wp_ret_weak (re_sb_at rfl (re_sb_at rfl (re_sb_at rfl (re_sb_at rfl (re_sb_at rfl (re_sb_at rfl (re_sb_nil _))))))) z)
set_option maxRecDepth 20000 in
theorem B582_47 {SC : List Value} {d s : Nat} {h : re_H} {Q : Nat → Value → re_H → Prop} {a0 : Nat} {x1 : Int32} {x2 : Int32} {x3 : Int32} {x5 : Int32} {x6 : Int32} {xs0 : Int32}
    {c : Nat} {w : List Value} (eg : re_hg h a0 = some (c, w)) (ec : c = 0) {s1 s2 : Nat} (hs : s1 + s2 ≤ s) (K : wp SC 36 d s1 0 [(0, .ref a0), (1, .int x5)] [] h (wp_ret SC 582 (d + 1) s2 55 [(0, .ref a0), (1, .int x1), (2, .int x2), (3, .int x3), (5, .int x5), (6, .int x6), (7, .int xs0)] [] Q)) : wp SC 582 (d + 1) s 47 [(0, .ref a0), (1, .int x1), (2, .int x2), (3, .int x3), (5, .int x5), (6, .int x6)] [.int xs0] h Q := by
  refine wp_run 3 (pc' := 52) (lv' := [(7, .int xs0), (0, .ref a0), (1, .int x1), (2, .int x2), (3, .int x3), (5, .int x5), (6, .int x6)]) (st' := [.int x5, .ref a0]) rfl ?_
  have eA : lv_args 0 (.ref a0 :: [.int x5].reverse) = [(0, .ref a0), (1, .int x5)] := by simp [lv_args, vc_i, vc_l, vc_r, vc_n, vc_a]
  refine wp_callV (ar := [.int x5]) (rest := []) (s1 := s1) (s2 := s2) (d' := d) ⟨rfl, rfl⟩ rfl (Or.inl rfl)  (by simp [re_cat, vc_i, vc_l, vc_r, vc_n, vc_a]) (by rw [show re_cat (.ref a0 :: [.int x5].reverse) = 2 from by simp [re_cat, vc_i, vc_l, vc_r, vc_n, vc_a]]; decide) (by decide) rfl eg ec rfl hs ?_
  rw [eA]
  exact wp_mono K (fun k v h' z => wp_ret_weak (re_sb_at rfl (re_sb_at rfl (re_sb_at rfl (re_sb_at rfl (re_sb_at rfl (re_sb_at rfl (re_sb_at rfl (re_sb_nil _)))))))) z)
set_option maxRecDepth 20000 in
theorem B582_55 {SC : List Value} {d s : Nat} {h : re_H} {Q : Nat → Value → re_H → Prop} {a0 : Nat} {x1 : Int32} {x2 : Int32} {x3 : Int32} {x5 : Int32} {x6 : Int32} {x7 : Int32} {xs0 : Int32}
    (K1 : ¬ 0 < xs0 → wp SC 582 d s 72 [(0, .ref a0), (1, .int x1), (2, .int x2), (3, .int x3), (5, .int x5), (6, .int x6), (7, .int x7), (8, .int xs0)] [] h Q) (K2 : 0 < xs0 → wp SC 582 d s 62 [(0, .ref a0), (1, .int x1), (2, .int x2), (3, .int x3), (5, .int x5), (6, .int x6), (7, .int x7), (8, .int xs0)] [] h Q) : wp SC 582 d s 55 [(0, .ref a0), (1, .int x1), (2, .int x2), (3, .int x3), (5, .int x5), (6, .int x6), (7, .int x7)] [.int xs0] h Q := by
  refine wp_run 2 (pc' := 59) (lv' := [(8, .int xs0), (0, .ref a0), (1, .int x1), (2, .int x2), (3, .int x3), (5, .int x5), (6, .int x6), (7, .int x7)]) (st' := [.int xs0]) rfl ?_
  exact wp_if ⟨rfl, rfl⟩ rfl (fun hc => wp_weak (re_sb_at rfl (re_sb_at rfl (re_sb_at rfl (re_sb_at rfl (re_sb_at rfl (re_sb_at rfl (re_sb_at rfl (re_sb_at rfl (re_sb_nil _))))))))) (K1 (ic1_le hc))) (fun hc => wp_weak (re_sb_at rfl (re_sb_at rfl (re_sb_at rfl (re_sb_at rfl (re_sb_at rfl (re_sb_at rfl (re_sb_at rfl (re_sb_at rfl (re_sb_nil _))))))))) (K2 (ic0_le hc)))
set_option maxRecDepth 20000 in
theorem B582_62 {SC : List Value} {d s : Nat} {h : re_H} {Q : Nat → Value → re_H → Prop} {a0 : Nat} {x1 : Int32} {x2 : Int32} {x3 : Int32} {x5 : Int32} {x6 : Int32} {x7 : Int32} {x8 : Int32}
    (K1 : ¬ x8 < (i32 4) → wp SC 582 d s 72 [(0, .ref a0), (1, .int x1), (2, .int x2), (3, .int x3), (5, .int x5), (6, .int x6), (7, .int x7), (8, .int x8)] [] h Q) (K2 : x8 < (i32 4) → wp SC 582 d s 68 [(0, .ref a0), (1, .int x1), (2, .int x2), (3, .int x3), (5, .int x5), (6, .int x6), (7, .int x7), (8, .int x8)] [] h Q) : wp SC 582 d s 62 [(0, .ref a0), (1, .int x1), (2, .int x2), (3, .int x3), (5, .int x5), (6, .int x6), (7, .int x7), (8, .int x8)] [] h Q := by
  refine wp_run 2 (pc' := 65) (lv' := [(0, .ref a0), (1, .int x1), (2, .int x2), (3, .int x3), (5, .int x5), (6, .int x6), (7, .int x7), (8, .int x8)]) (st' := [.int (i32 4), .int x8]) rfl ?_
  exact wp_cmp ⟨rfl, rfl⟩ rfl (fun hc => wp_weak (re_sb_at rfl (re_sb_at rfl (re_sb_at rfl (re_sb_at rfl (re_sb_at rfl (re_sb_at rfl (re_sb_at rfl (re_sb_at rfl (re_sb_nil _))))))))) (K1 (ic1_ge hc))) (fun hc => wp_weak (re_sb_at rfl (re_sb_at rfl (re_sb_at rfl (re_sb_at rfl (re_sb_at rfl (re_sb_at rfl (re_sb_at rfl (re_sb_at rfl (re_sb_nil _))))))))) (K2 (ic0_ge hc)))
set_option maxRecDepth 20000 in
theorem B582_68 {SC : List Value} {d s : Nat} {h : re_H} {Q : Nat → Value → re_H → Prop} {a0 : Nat} {x1 : Int32} {x2 : Int32} {x3 : Int32} {x5 : Int32} {x6 : Int32} {x7 : Int32} {x8 : Int32}
    (K : wp SC 582 d s 73 [(0, .ref a0), (1, .int x1), (2, .int x2), (3, .int x3), (5, .int x5), (6, .int x6), (7, .int x7), (8, .int x8)] [.int (i32 1)] h Q) : wp SC 582 d s 68 [(0, .ref a0), (1, .int x1), (2, .int x2), (3, .int x3), (5, .int x5), (6, .int x6), (7, .int x7), (8, .int x8)] [] h Q := by
  refine wp_run 2 (pc' := 73) (lv' := [(0, .ref a0), (1, .int x1), (2, .int x2), (3, .int x3), (5, .int x5), (6, .int x6), (7, .int x7), (8, .int x8)]) (st' := [.int (i32 1)]) rfl ?_
  exact wp_weak (re_sb_at rfl (re_sb_at rfl (re_sb_at rfl (re_sb_at rfl (re_sb_at rfl (re_sb_at rfl (re_sb_at rfl (re_sb_at rfl (re_sb_nil _))))))))) K
set_option maxRecDepth 20000 in
theorem B582_72 {SC : List Value} {d s : Nat} {h : re_H} {Q : Nat → Value → re_H → Prop} {a0 : Nat} {x1 : Int32} {x2 : Int32} {x3 : Int32} {x5 : Int32} {x6 : Int32} {x7 : Int32} {x8 : Int32}
    (K : wp SC 582 d s 73 [(0, .ref a0), (1, .int x1), (2, .int x2), (3, .int x3), (5, .int x5), (6, .int x6), (7, .int x7), (8, .int x8)] [.int (i32 0)] h Q) : wp SC 582 d s 72 [(0, .ref a0), (1, .int x1), (2, .int x2), (3, .int x3), (5, .int x5), (6, .int x6), (7, .int x7), (8, .int x8)] [] h Q := by
  refine wp_run 1 (pc' := 73) (lv' := [(0, .ref a0), (1, .int x1), (2, .int x2), (3, .int x3), (5, .int x5), (6, .int x6), (7, .int x7), (8, .int x8)]) (st' := [.int (i32 0)]) rfl ?_
  exact wp_weak (re_sb_at rfl (re_sb_at rfl (re_sb_at rfl (re_sb_at rfl (re_sb_at rfl (re_sb_at rfl (re_sb_at rfl (re_sb_at rfl (re_sb_nil _))))))))) K
set_option maxRecDepth 20000 in
theorem B582_73 {SC : List Value} {d s : Nat} {h : re_H} {Q : Nat → Value → re_H → Prop} {a0 : Nat} {x1 : Int32} {x2 : Int32} {x3 : Int32} {x5 : Int32} {x6 : Int32} {x7 : Int32} {x8 : Int32} {xs0 : Int32}
    (K1 : ¬ x7 = 0 → wp SC 582 d s 95 [(0, .ref a0), (1, .int x1), (2, .int x2), (3, .int x3), (5, .int x5), (6, .int x6), (7, .int x7), (8, .int x8), (9, .int xs0)] [] h Q) (K2 : x7 = 0 → wp SC 582 d s 80 [(0, .ref a0), (1, .int x1), (2, .int x2), (3, .int x3), (5, .int x5), (6, .int x6), (7, .int x7), (8, .int x8), (9, .int xs0)] [] h Q) : wp SC 582 d s 73 [(0, .ref a0), (1, .int x1), (2, .int x2), (3, .int x3), (5, .int x5), (6, .int x6), (7, .int x7), (8, .int x8)] [.int xs0] h Q := by
  refine wp_run 2 (pc' := 77) (lv' := [(9, .int xs0), (0, .ref a0), (1, .int x1), (2, .int x2), (3, .int x3), (5, .int x5), (6, .int x6), (7, .int x7), (8, .int x8)]) (st' := [.int x7]) rfl ?_
  exact wp_if ⟨rfl, rfl⟩ rfl (fun hc => wp_weak (re_sb_at rfl (re_sb_at rfl (re_sb_at rfl (re_sb_at rfl (re_sb_at rfl (re_sb_at rfl (re_sb_at rfl (re_sb_at rfl (re_sb_at rfl (re_sb_nil _)))))))))) (K1 (ic1_ne hc))) (fun hc => wp_weak (re_sb_at rfl (re_sb_at rfl (re_sb_at rfl (re_sb_at rfl (re_sb_at rfl (re_sb_at rfl (re_sb_at rfl (re_sb_at rfl (re_sb_at rfl (re_sb_nil _)))))))))) (K2 (ic0_ne hc)))
set_option maxRecDepth 20000 in
theorem B582_80 {SC : List Value} {d s : Nat} {h : re_H} {Q : Nat → Value → re_H → Prop} {a0 : Nat} {x1 : Int32} {x2 : Int32} {x3 : Int32} {x5 : Int32} {x6 : Int32} {x7 : Int32} {x8 : Int32} {x9 : Int32}
    (K1 : ¬ x3 = (i32 1) → wp SC 582 d s 99 [(0, .ref a0), (1, .int x1), (2, .int x2), (3, .int x3), (5, .int x5), (6, .int x6), (7, .int x7), (8, .int x8), (9, .int x9)] [] h Q) (K2 : x3 = (i32 1) → wp SC 582 d s 85 [(0, .ref a0), (1, .int x1), (2, .int x2), (3, .int x3), (5, .int x5), (6, .int x6), (7, .int x7), (8, .int x8), (9, .int x9)] [] h Q) : wp SC 582 d s 80 [(0, .ref a0), (1, .int x1), (2, .int x2), (3, .int x3), (5, .int x5), (6, .int x6), (7, .int x7), (8, .int x8), (9, .int x9)] [] h Q := by
  refine wp_run 2 (pc' := 82) (lv' := [(0, .ref a0), (1, .int x1), (2, .int x2), (3, .int x3), (5, .int x5), (6, .int x6), (7, .int x7), (8, .int x8), (9, .int x9)]) (st' := [.int (i32 1), .int x3]) rfl ?_
  exact wp_cmp ⟨rfl, rfl⟩ rfl (fun hc => wp_weak (re_sb_at rfl (re_sb_at rfl (re_sb_at rfl (re_sb_at rfl (re_sb_at rfl (re_sb_at rfl (re_sb_at rfl (re_sb_at rfl (re_sb_at rfl (re_sb_nil _)))))))))) (K1 (ic1_ne hc))) (fun hc => wp_weak (re_sb_at rfl (re_sb_at rfl (re_sb_at rfl (re_sb_at rfl (re_sb_at rfl (re_sb_at rfl (re_sb_at rfl (re_sb_at rfl (re_sb_at rfl (re_sb_nil _)))))))))) (K2 (ic0_ne hc)))
set_option maxRecDepth 20000 in
theorem B582_85 {SC : List Value} {d s : Nat} {h : re_H} {Q : Nat → Value → re_H → Prop} {a0 : Nat} {x1 : Int32} {x2 : Int32} {x3 : Int32} {x5 : Int32} {x6 : Int32} {x7 : Int32} {x8 : Int32} {x9 : Int32}
    {s1 s2 : Nat} (hs : s1 + s2 ≤ s) (K : wp SC 583 d s1 0 [(0, .ref a0), (1, .int x1), (2, .int x5)] [] h (wp_ret SC 582 (d + 1) s2 92 [(0, .ref a0), (1, .int x1), (2, .int x2), (3, .int x3), (5, .int x5), (6, .int x6), (7, .int x7), (8, .int x8), (9, .int x9)] [] Q)) : wp SC 582 (d + 1) s 85 [(0, .ref a0), (1, .int x1), (2, .int x2), (3, .int x3), (5, .int x5), (6, .int x6), (7, .int x7), (8, .int x8), (9, .int x9)] [] h Q := by
  refine wp_run 3 (pc' := 89) (lv' := [(0, .ref a0), (1, .int x1), (2, .int x2), (3, .int x3), (5, .int x5), (6, .int x6), (7, .int x7), (8, .int x8), (9, .int x9)]) (st' := [.int x5, .int x1, .ref a0]) rfl ?_
  have eA : lv_args 0 ([.int x5, .int x1, .ref a0].reverse) = [(0, .ref a0), (1, .int x1), (2, .int x5)] := by simp [lv_args, vc_i, vc_l, vc_r, vc_n, vc_a]
  refine wp_callS (ar := [.int x5, .int x1, .ref a0]) (rest := []) (s1 := s1) (s2 := s2) (d' := d) ⟨rfl, rfl⟩ rfl (Or.inl rfl) rfl (by simp [re_cat, vc_i, vc_l, vc_r, vc_n, vc_a]) (by rw [show re_cat ([.int x5, .int x1, .ref a0].reverse) = 3 from by simp [re_cat, vc_i, vc_l, vc_r, vc_n, vc_a]]; decide) (by decide) rfl rfl hs ?_
  rw [eA]
  exact wp_mono K (fun k v h' z => wp_ret_weak (re_sb_at rfl (re_sb_at rfl (re_sb_at rfl (re_sb_at rfl (re_sb_at rfl (re_sb_at rfl (re_sb_at rfl (re_sb_at rfl (re_sb_at rfl (re_sb_nil _)))))))))) z)
set_option maxRecDepth 20000 in
theorem B582_92 {SC : List Value} {d s : Nat} {h : re_H} {Q : Nat → Value → re_H → Prop} {a0 : Nat} {x1 : Int32} {x2 : Int32} {x3 : Int32} {x5 : Int32} {x6 : Int32} {x7 : Int32} {x8 : Int32} {x9 : Int32} {xs0 : Int32}
    (K1 : ¬ xs0 = 0 → wp SC 582 d s 99 [(0, .ref a0), (1, .int x1), (2, .int x2), (3, .int x3), (5, .int x5), (6, .int x6), (7, .int x7), (8, .int x8), (9, .int x9)] [] h Q) (K2 : xs0 = 0 → wp SC 582 d s 95 [(0, .ref a0), (1, .int x1), (2, .int x2), (3, .int x3), (5, .int x5), (6, .int x6), (7, .int x7), (8, .int x8), (9, .int x9)] [] h Q) : wp SC 582 d s 92 [(0, .ref a0), (1, .int x1), (2, .int x2), (3, .int x3), (5, .int x5), (6, .int x6), (7, .int x7), (8, .int x8), (9, .int x9)] [.int xs0] h Q := by
  exact wp_if ⟨rfl, rfl⟩ rfl (fun hc => wp_weak (re_sb_at rfl (re_sb_at rfl (re_sb_at rfl (re_sb_at rfl (re_sb_at rfl (re_sb_at rfl (re_sb_at rfl (re_sb_at rfl (re_sb_at rfl (re_sb_nil _)))))))))) (K1 (ic1_ne hc))) (fun hc => wp_weak (re_sb_at rfl (re_sb_at rfl (re_sb_at rfl (re_sb_at rfl (re_sb_at rfl (re_sb_at rfl (re_sb_at rfl (re_sb_at rfl (re_sb_at rfl (re_sb_nil _)))))))))) (K2 (ic0_ne hc)))
set_option maxRecDepth 20000 in
theorem B582_95 {SC : List Value} {d s : Nat} {h : re_H} {Q : Nat → Value → re_H → Prop} {a0 : Nat} {x1 : Int32} {x2 : Int32} {x3 : Int32} {x5 : Int32} {x6 : Int32} {x7 : Int32} {x8 : Int32} {x9 : Int32}
    (K : wp SC 582 d s 100 [(0, .ref a0), (1, .int x1), (2, .int x2), (3, .int x3), (5, .int x5), (6, .int x6), (7, .int x7), (8, .int x8), (9, .int x9)] [.int (i32 1)] h Q) : wp SC 582 d s 95 [(0, .ref a0), (1, .int x1), (2, .int x2), (3, .int x3), (5, .int x5), (6, .int x6), (7, .int x7), (8, .int x8), (9, .int x9)] [] h Q := by
  refine wp_run 2 (pc' := 100) (lv' := [(0, .ref a0), (1, .int x1), (2, .int x2), (3, .int x3), (5, .int x5), (6, .int x6), (7, .int x7), (8, .int x8), (9, .int x9)]) (st' := [.int (i32 1)]) rfl ?_
  exact wp_weak (re_sb_at rfl (re_sb_at rfl (re_sb_at rfl (re_sb_at rfl (re_sb_at rfl (re_sb_at rfl (re_sb_at rfl (re_sb_at rfl (re_sb_at rfl (re_sb_nil _)))))))))) K
set_option maxRecDepth 20000 in
theorem B582_99 {SC : List Value} {d s : Nat} {h : re_H} {Q : Nat → Value → re_H → Prop} {a0 : Nat} {x1 : Int32} {x2 : Int32} {x3 : Int32} {x5 : Int32} {x6 : Int32} {x7 : Int32} {x8 : Int32} {x9 : Int32}
    (K : wp SC 582 d s 100 [(0, .ref a0), (1, .int x1), (2, .int x2), (3, .int x3), (5, .int x5), (6, .int x6), (7, .int x7), (8, .int x8), (9, .int x9)] [.int (i32 0)] h Q) : wp SC 582 d s 99 [(0, .ref a0), (1, .int x1), (2, .int x2), (3, .int x3), (5, .int x5), (6, .int x6), (7, .int x7), (8, .int x8), (9, .int x9)] [] h Q := by
  refine wp_run 1 (pc' := 100) (lv' := [(0, .ref a0), (1, .int x1), (2, .int x2), (3, .int x3), (5, .int x5), (6, .int x6), (7, .int x7), (8, .int x8), (9, .int x9)]) (st' := [.int (i32 0)]) rfl ?_
  exact wp_weak (re_sb_at rfl (re_sb_at rfl (re_sb_at rfl (re_sb_at rfl (re_sb_at rfl (re_sb_at rfl (re_sb_at rfl (re_sb_at rfl (re_sb_at rfl (re_sb_nil _)))))))))) K
set_option maxRecDepth 20000 in
theorem B582_100 {SC : List Value} {d s : Nat} {h : re_H} {Q : Nat → Value → re_H → Prop} {a0 : Nat} {x1 : Int32} {x2 : Int32} {x3 : Int32} {x5 : Int32} {x6 : Int32} {x7 : Int32} {x8 : Int32} {x9 : Int32} {xs0 : Int32}
    (K1 : 0 < x2 → wp SC 582 d s 111 [(0, .ref a0), (1, .int x1), (2, .int x2), (3, .int x3), (5, .int x5), (6, .int x6), (7, .int x7), (8, .int x8), (9, .int x9), (10, .int xs0)] [] h Q) (K2 : ¬ 0 < x2 → wp SC 582 d s 106 [(0, .ref a0), (1, .int x1), (2, .int x2), (3, .int x3), (5, .int x5), (6, .int x6), (7, .int x7), (8, .int x8), (9, .int x9), (10, .int xs0)] [] h Q) : wp SC 582 d s 100 [(0, .ref a0), (1, .int x1), (2, .int x2), (3, .int x3), (5, .int x5), (6, .int x6), (7, .int x7), (8, .int x8), (9, .int x9)] [.int xs0] h Q := by
  refine wp_run 2 (pc' := 103) (lv' := [(10, .int xs0), (0, .ref a0), (1, .int x1), (2, .int x2), (3, .int x3), (5, .int x5), (6, .int x6), (7, .int x7), (8, .int x8), (9, .int x9)]) (st' := [.int x2]) rfl ?_
  exact wp_if ⟨rfl, rfl⟩ rfl (fun hc => wp_weak (re_sb_at rfl (re_sb_at rfl (re_sb_at rfl (re_sb_at rfl (re_sb_at rfl (re_sb_at rfl (re_sb_at rfl (re_sb_at rfl (re_sb_at rfl (re_sb_at rfl (re_sb_nil _))))))))))) (K1 (ic1_gt hc))) (fun hc => wp_weak (re_sb_at rfl (re_sb_at rfl (re_sb_at rfl (re_sb_at rfl (re_sb_at rfl (re_sb_at rfl (re_sb_at rfl (re_sb_at rfl (re_sb_at rfl (re_sb_at rfl (re_sb_nil _))))))))))) (K2 (ic0_gt hc)))
set_option maxRecDepth 20000 in
theorem B582_106 {SC : List Value} {d s : Nat} {h : re_H} {Q : Nat → Value → re_H → Prop} {a0 : Nat} {x1 : Int32} {x2 : Int32} {x3 : Int32} {x5 : Int32} {x6 : Int32} {x7 : Int32} {x8 : Int32} {x9 : Int32} {x10 : Int32}
    (K1 : ¬ x7 = 0 → wp SC 582 d s 167 [(0, .ref a0), (1, .int x1), (2, .int x2), (3, .int x3), (5, .int x5), (6, .int x6), (10, .int x10)] [] h Q) (K2 : x7 = 0 → wp SC 582 d s 111 [(0, .ref a0), (1, .int x1), (2, .int x2), (3, .int x3), (5, .int x5), (6, .int x6), (7, .int x7), (8, .int x8), (9, .int x9), (10, .int x10)] [] h Q) : wp SC 582 d s 106 [(0, .ref a0), (1, .int x1), (2, .int x2), (3, .int x3), (5, .int x5), (6, .int x6), (7, .int x7), (8, .int x8), (9, .int x9), (10, .int x10)] [] h Q := by
  refine wp_run 1 (pc' := 108) (lv' := [(0, .ref a0), (1, .int x1), (2, .int x2), (3, .int x3), (5, .int x5), (6, .int x6), (7, .int x7), (8, .int x8), (9, .int x9), (10, .int x10)]) (st' := [.int x7]) rfl ?_
  exact wp_if ⟨rfl, rfl⟩ rfl (fun hc => wp_weak (re_sb_at rfl (re_sb_at rfl (re_sb_at rfl (re_sb_at rfl (re_sb_at rfl (re_sb_at rfl (re_sb_at rfl (re_sb_nil _)))))))) (K1 (ic1_ne hc))) (fun hc => wp_weak (re_sb_at rfl (re_sb_at rfl (re_sb_at rfl (re_sb_at rfl (re_sb_at rfl (re_sb_at rfl (re_sb_at rfl (re_sb_at rfl (re_sb_at rfl (re_sb_at rfl (re_sb_nil _))))))))))) (K2 (ic0_ne hc)))
set_option maxRecDepth 20000 in
theorem B582_111 {SC : List Value} {d s : Nat} {h : re_H} {Q : Nat → Value → re_H → Prop} {a0 : Nat} {x1 : Int32} {x2 : Int32} {x3 : Int32} {x5 : Int32} {x6 : Int32} {x7 : Int32} {x8 : Int32} {x9 : Int32} {x10 : Int32}
    (K1 : ¬ x6 < 0 → wp SC 582 d s 121 [(0, .ref a0), (1, .int x1), (2, .int x2), (3, .int x3), (5, .int x5), (6, .int x6), (7, .int x7), (8, .int x8), (9, .int x9), (10, .int x10)] [] h Q) (K2 : x6 < 0 → wp SC 582 d s 116 [(0, .ref a0), (1, .int x1), (2, .int x2), (3, .int x3), (5, .int x5), (6, .int x6), (7, .int x7), (8, .int x8), (9, .int x9), (10, .int x10)] [] h Q) : wp SC 582 d s 111 [(0, .ref a0), (1, .int x1), (2, .int x2), (3, .int x3), (5, .int x5), (6, .int x6), (7, .int x7), (8, .int x8), (9, .int x9), (10, .int x10)] [] h Q := by
  refine wp_run 1 (pc' := 113) (lv' := [(0, .ref a0), (1, .int x1), (2, .int x2), (3, .int x3), (5, .int x5), (6, .int x6), (7, .int x7), (8, .int x8), (9, .int x9), (10, .int x10)]) (st' := [.int x6]) rfl ?_
  exact wp_if ⟨rfl, rfl⟩ rfl (fun hc => wp_weak (re_sb_at rfl (re_sb_at rfl (re_sb_at rfl (re_sb_at rfl (re_sb_at rfl (re_sb_at rfl (re_sb_at rfl (re_sb_at rfl (re_sb_at rfl (re_sb_at rfl (re_sb_nil _))))))))))) (K1 (ic1_ge hc))) (fun hc => wp_weak (re_sb_at rfl (re_sb_at rfl (re_sb_at rfl (re_sb_at rfl (re_sb_at rfl (re_sb_at rfl (re_sb_at rfl (re_sb_at rfl (re_sb_at rfl (re_sb_at rfl (re_sb_nil _))))))))))) (K2 (ic0_ge hc)))
set_option maxRecDepth 20000 in
theorem B582_116 {SC : List Value} {d s : Nat} {h : re_H} {Q : Nat → Value → re_H → Prop} {a0 : Nat} {x1 : Int32} {x2 : Int32} {x3 : Int32} {x5 : Int32} {x6 : Int32} {x7 : Int32} {x8 : Int32} {x9 : Int32} {x10 : Int32}
    (K1 : x7 = 0 → wp SC 582 d s 167 [(0, .ref a0), (1, .int x1), (2, .int x2), (3, .int x3), (5, .int x5), (6, .int x6), (10, .int x10)] [] h Q) (K2 : ¬ x7 = 0 → wp SC 582 d s 121 [(0, .ref a0), (1, .int x1), (2, .int x2), (3, .int x3), (5, .int x5), (6, .int x6), (7, .int x7), (8, .int x8), (9, .int x9), (10, .int x10)] [] h Q) : wp SC 582 d s 116 [(0, .ref a0), (1, .int x1), (2, .int x2), (3, .int x3), (5, .int x5), (6, .int x6), (7, .int x7), (8, .int x8), (9, .int x9), (10, .int x10)] [] h Q := by
  refine wp_run 1 (pc' := 118) (lv' := [(0, .ref a0), (1, .int x1), (2, .int x2), (3, .int x3), (5, .int x5), (6, .int x6), (7, .int x7), (8, .int x8), (9, .int x9), (10, .int x10)]) (st' := [.int x7]) rfl ?_
  exact wp_if ⟨rfl, rfl⟩ rfl (fun hc => wp_weak (re_sb_at rfl (re_sb_at rfl (re_sb_at rfl (re_sb_at rfl (re_sb_at rfl (re_sb_at rfl (re_sb_at rfl (re_sb_nil _)))))))) (K1 (ic1_eq hc))) (fun hc => wp_weak (re_sb_at rfl (re_sb_at rfl (re_sb_at rfl (re_sb_at rfl (re_sb_at rfl (re_sb_at rfl (re_sb_at rfl (re_sb_at rfl (re_sb_at rfl (re_sb_at rfl (re_sb_nil _))))))))))) (K2 (ic0_eq hc)))
set_option maxRecDepth 20000 in
theorem B582_121 {SC : List Value} {d s : Nat} {h : re_H} {Q : Nat → Value → re_H → Prop} {a0 : Nat} {x1 : Int32} {x2 : Int32} {x3 : Int32} {x5 : Int32} {x6 : Int32} {x7 : Int32} {x8 : Int32} {x9 : Int32} {x10 : Int32}
    (K1 : ¬ x10 = 0 → wp SC 582 d s 133 [(0, .ref a0), (1, .int x1), (2, .int x2), (3, .int x3), (5, .int x5), (6, .int x6), (7, .int x7), (8, .int x8), (9, .int x9), (10, .int x10)] [] h Q) (K2 : x10 = 0 → wp SC 582 d s 126 [(0, .ref a0), (1, .int x1), (2, .int x2), (3, .int x3), (5, .int x5), (6, .int x6), (7, .int x7), (8, .int x8), (9, .int x9), (10, .int x10)] [] h Q) : wp SC 582 d s 121 [(0, .ref a0), (1, .int x1), (2, .int x2), (3, .int x3), (5, .int x5), (6, .int x6), (7, .int x7), (8, .int x8), (9, .int x9), (10, .int x10)] [] h Q := by
  refine wp_run 1 (pc' := 123) (lv' := [(0, .ref a0), (1, .int x1), (2, .int x2), (3, .int x3), (5, .int x5), (6, .int x6), (7, .int x7), (8, .int x8), (9, .int x9), (10, .int x10)]) (st' := [.int x10]) rfl ?_
  exact wp_if ⟨rfl, rfl⟩ rfl (fun hc => wp_weak (re_sb_at rfl (re_sb_at rfl (re_sb_at rfl (re_sb_at rfl (re_sb_at rfl (re_sb_at rfl (re_sb_at rfl (re_sb_at rfl (re_sb_at rfl (re_sb_at rfl (re_sb_nil _))))))))))) (K1 (ic1_ne hc))) (fun hc => wp_weak (re_sb_at rfl (re_sb_at rfl (re_sb_at rfl (re_sb_at rfl (re_sb_at rfl (re_sb_at rfl (re_sb_at rfl (re_sb_at rfl (re_sb_at rfl (re_sb_at rfl (re_sb_nil _))))))))))) (K2 (ic0_ne hc)))
set_option maxRecDepth 20000 in
theorem B582_126 {SC : List Value} {d s : Nat} {h : re_H} {Q : Nat → Value → re_H → Prop} {a0 : Nat} {x1 : Int32} {x2 : Int32} {x3 : Int32} {x5 : Int32} {x6 : Int32} {x7 : Int32} {x8 : Int32} {x9 : Int32} {x10 : Int32}
    (K1 : ¬ x6 = x8 → wp SC 582 d s 167 [(0, .ref a0), (1, .int x1), (2, .int x2), (3, .int x3), (5, .int x5), (6, .int x6), (10, .int x10)] [] h Q) (K2 : x6 = x8 → wp SC 582 d s 133 [(0, .ref a0), (1, .int x1), (2, .int x2), (3, .int x3), (5, .int x5), (6, .int x6), (7, .int x7), (8, .int x8), (9, .int x9), (10, .int x10)] [] h Q) : wp SC 582 d s 126 [(0, .ref a0), (1, .int x1), (2, .int x2), (3, .int x3), (5, .int x5), (6, .int x6), (7, .int x7), (8, .int x8), (9, .int x9), (10, .int x10)] [] h Q := by
  refine wp_run 2 (pc' := 130) (lv' := [(0, .ref a0), (1, .int x1), (2, .int x2), (3, .int x3), (5, .int x5), (6, .int x6), (7, .int x7), (8, .int x8), (9, .int x9), (10, .int x10)]) (st' := [.int x8, .int x6]) rfl ?_
  exact wp_cmp ⟨rfl, rfl⟩ rfl (fun hc => wp_weak (re_sb_at rfl (re_sb_at rfl (re_sb_at rfl (re_sb_at rfl (re_sb_at rfl (re_sb_at rfl (re_sb_at rfl (re_sb_nil _)))))))) (K1 (ic1_ne hc))) (fun hc => wp_weak (re_sb_at rfl (re_sb_at rfl (re_sb_at rfl (re_sb_at rfl (re_sb_at rfl (re_sb_at rfl (re_sb_at rfl (re_sb_at rfl (re_sb_at rfl (re_sb_at rfl (re_sb_nil _))))))))))) (K2 (ic0_ne hc)))
set_option maxRecDepth 20000 in
theorem B582_133 {SC : List Value} {d s : Nat} {h : re_H} {Q : Nat → Value → re_H → Prop} {a0 : Nat} {x1 : Int32} {x2 : Int32} {x3 : Int32} {x5 : Int32} {x6 : Int32} {x7 : Int32} {x8 : Int32} {x9 : Int32} {x10 : Int32}
    (K1 : x9 = 0 → wp SC 582 d s 163 [(0, .ref a0), (1, .int x1), (2, .int x2), (3, .int x3), (5, .int x5), (6, .int x6), (10, .int x10)] [] h Q) (K2 : ¬ x9 = 0 → wp SC 582 d s 138 [(0, .ref a0), (1, .int x1), (2, .int x2), (3, .int x3), (5, .int x5), (6, .int x6), (7, .int x7), (8, .int x8), (10, .int x10)] [] h Q) : wp SC 582 d s 133 [(0, .ref a0), (1, .int x1), (2, .int x2), (3, .int x3), (5, .int x5), (6, .int x6), (7, .int x7), (8, .int x8), (9, .int x9), (10, .int x10)] [] h Q := by
  refine wp_run 1 (pc' := 135) (lv' := [(0, .ref a0), (1, .int x1), (2, .int x2), (3, .int x3), (5, .int x5), (6, .int x6), (7, .int x7), (8, .int x8), (9, .int x9), (10, .int x10)]) (st' := [.int x9]) rfl ?_
  exact wp_if ⟨rfl, rfl⟩ rfl (fun hc => wp_weak (re_sb_at rfl (re_sb_at rfl (re_sb_at rfl (re_sb_at rfl (re_sb_at rfl (re_sb_at rfl (re_sb_at rfl (re_sb_nil _)))))))) (K1 (ic1_eq hc))) (fun hc => wp_weak (re_sb_at rfl (re_sb_at rfl (re_sb_at rfl (re_sb_at rfl (re_sb_at rfl (re_sb_at rfl (re_sb_at rfl (re_sb_at rfl (re_sb_at rfl (re_sb_nil _)))))))))) (K2 (ic0_eq hc)))
set_option maxRecDepth 20000 in
theorem B582_138 {SC : List Value} {d s : Nat} {h : re_H} {Q : Nat → Value → re_H → Prop} {a0 : Nat} {x1 : Int32} {x2 : Int32} {x3 : Int32} {x5 : Int32} {x6 : Int32} {x7 : Int32} {x8 : Int32} {x10 : Int32}
    (K1 : ¬ x7 = 0 → wp SC 582 d s 147 [(0, .ref a0), (1, .int x1), (2, .int x2), (3, .int x3), (5, .int x5), (6, .int x6), (8, .int x8), (10, .int x10)] [] h Q) (K2 : x7 = 0 → wp SC 582 d s 143 [(0, .ref a0), (1, .int x1), (2, .int x2), (3, .int x3), (5, .int x5), (6, .int x6), (8, .int x8), (10, .int x10)] [] h Q) : wp SC 582 d s 138 [(0, .ref a0), (1, .int x1), (2, .int x2), (3, .int x3), (5, .int x5), (6, .int x6), (7, .int x7), (8, .int x8), (10, .int x10)] [] h Q := by
  refine wp_run 1 (pc' := 140) (lv' := [(0, .ref a0), (1, .int x1), (2, .int x2), (3, .int x3), (5, .int x5), (6, .int x6), (7, .int x7), (8, .int x8), (10, .int x10)]) (st' := [.int x7]) rfl ?_
  exact wp_if ⟨rfl, rfl⟩ rfl (fun hc => wp_weak (re_sb_at rfl (re_sb_at rfl (re_sb_at rfl (re_sb_at rfl (re_sb_at rfl (re_sb_at rfl (re_sb_at rfl (re_sb_at rfl (re_sb_nil _))))))))) (K1 (ic1_ne hc))) (fun hc => wp_weak (re_sb_at rfl (re_sb_at rfl (re_sb_at rfl (re_sb_at rfl (re_sb_at rfl (re_sb_at rfl (re_sb_at rfl (re_sb_at rfl (re_sb_nil _))))))))) (K2 (ic0_ne hc)))
set_option maxRecDepth 20000 in
theorem B582_143 {SC : List Value} {d s : Nat} {h : re_H} {Q : Nat → Value → re_H → Prop} {a0 : Nat} {x1 : Int32} {x2 : Int32} {x3 : Int32} {x5 : Int32} {x6 : Int32} {x8 : Int32} {x10 : Int32}
    (K : wp SC 582 d s 148 [(0, .ref a0), (1, .int x1), (2, .int x2), (3, .int x3), (5, .int x5), (6, .int x6), (8, .int x8), (10, .int x10)] [.int (i32 1)] h Q) : wp SC 582 d s 143 [(0, .ref a0), (1, .int x1), (2, .int x2), (3, .int x3), (5, .int x5), (6, .int x6), (8, .int x8), (10, .int x10)] [] h Q := by
  refine wp_run 2 (pc' := 148) (lv' := [(0, .ref a0), (1, .int x1), (2, .int x2), (3, .int x3), (5, .int x5), (6, .int x6), (8, .int x8), (10, .int x10)]) (st' := [.int (i32 1)]) rfl ?_
  exact wp_weak (re_sb_at rfl (re_sb_at rfl (re_sb_at rfl (re_sb_at rfl (re_sb_at rfl (re_sb_at rfl (re_sb_at rfl (re_sb_at rfl (re_sb_nil _))))))))) K
set_option maxRecDepth 20000 in
theorem B582_147 {SC : List Value} {d s : Nat} {h : re_H} {Q : Nat → Value → re_H → Prop} {a0 : Nat} {x1 : Int32} {x2 : Int32} {x3 : Int32} {x5 : Int32} {x6 : Int32} {x8 : Int32} {x10 : Int32}
    (K : wp SC 582 d s 148 [(0, .ref a0), (1, .int x1), (2, .int x2), (3, .int x3), (5, .int x5), (6, .int x6), (8, .int x8), (10, .int x10)] [.int (i32 0)] h Q) : wp SC 582 d s 147 [(0, .ref a0), (1, .int x1), (2, .int x2), (3, .int x3), (5, .int x5), (6, .int x6), (8, .int x8), (10, .int x10)] [] h Q := by
  refine wp_run 1 (pc' := 148) (lv' := [(0, .ref a0), (1, .int x1), (2, .int x2), (3, .int x3), (5, .int x5), (6, .int x6), (8, .int x8), (10, .int x10)]) (st' := [.int (i32 0)]) rfl ?_
  exact wp_weak (re_sb_at rfl (re_sb_at rfl (re_sb_at rfl (re_sb_at rfl (re_sb_at rfl (re_sb_at rfl (re_sb_at rfl (re_sb_at rfl (re_sb_nil _))))))))) K
set_option maxRecDepth 20000 in
theorem B582_148 {SC : List Value} {d s : Nat} {h : re_H} {Q : Nat → Value → re_H → Prop} {a0 : Nat} {x1 : Int32} {x2 : Int32} {x3 : Int32} {x5 : Int32} {x6 : Int32} {x8 : Int32} {x10 : Int32} {xs0 : Int32}
    (K1 : ¬ x6 = x8 → wp SC 582 d s 159 [(0, .ref a0), (1, .int x1), (2, .int x2), (3, .int x3), (5, .int x5), (6, .int x6), (10, .int x10)] [.int xs0] h Q) (K2 : x6 = x8 → wp SC 582 d s 155 [(0, .ref a0), (1, .int x1), (2, .int x2), (3, .int x3), (5, .int x5), (6, .int x6), (10, .int x10)] [.int xs0] h Q) : wp SC 582 d s 148 [(0, .ref a0), (1, .int x1), (2, .int x2), (3, .int x3), (5, .int x5), (6, .int x6), (8, .int x8), (10, .int x10)] [.int xs0] h Q := by
  refine wp_run 2 (pc' := 152) (lv' := [(0, .ref a0), (1, .int x1), (2, .int x2), (3, .int x3), (5, .int x5), (6, .int x6), (8, .int x8), (10, .int x10)]) (st' := [.int x8, .int x6, .int xs0]) rfl ?_
  exact wp_cmp ⟨rfl, rfl⟩ rfl (fun hc => wp_weak (re_sb_at rfl (re_sb_at rfl (re_sb_at rfl (re_sb_at rfl (re_sb_at rfl (re_sb_at rfl (re_sb_at rfl (re_sb_nil _)))))))) (K1 (ic1_ne hc))) (fun hc => wp_weak (re_sb_at rfl (re_sb_at rfl (re_sb_at rfl (re_sb_at rfl (re_sb_at rfl (re_sb_at rfl (re_sb_at rfl (re_sb_nil _)))))))) (K2 (ic0_ne hc)))
set_option maxRecDepth 20000 in
theorem B582_155 {SC : List Value} {d s : Nat} {h : re_H} {Q : Nat → Value → re_H → Prop} {a0 : Nat} {x1 : Int32} {x2 : Int32} {x3 : Int32} {x5 : Int32} {x6 : Int32} {x10 : Int32} {xs0 : Int32}
    (K : wp SC 582 d s 160 [(0, .ref a0), (1, .int x1), (2, .int x2), (3, .int x3), (5, .int x5), (6, .int x6), (10, .int x10)] [.int (i32 1), .int xs0] h Q) : wp SC 582 d s 155 [(0, .ref a0), (1, .int x1), (2, .int x2), (3, .int x3), (5, .int x5), (6, .int x6), (10, .int x10)] [.int xs0] h Q := by
  refine wp_run 2 (pc' := 160) (lv' := [(0, .ref a0), (1, .int x1), (2, .int x2), (3, .int x3), (5, .int x5), (6, .int x6), (10, .int x10)]) (st' := [.int (i32 1), .int xs0]) rfl ?_
  exact wp_weak (re_sb_at rfl (re_sb_at rfl (re_sb_at rfl (re_sb_at rfl (re_sb_at rfl (re_sb_at rfl (re_sb_at rfl (re_sb_nil _)))))))) K
set_option maxRecDepth 20000 in
theorem B582_159 {SC : List Value} {d s : Nat} {h : re_H} {Q : Nat → Value → re_H → Prop} {a0 : Nat} {x1 : Int32} {x2 : Int32} {x3 : Int32} {x5 : Int32} {x6 : Int32} {x10 : Int32} {xs0 : Int32}
    (K : wp SC 582 d s 160 [(0, .ref a0), (1, .int x1), (2, .int x2), (3, .int x3), (5, .int x5), (6, .int x6), (10, .int x10)] [.int (i32 0), .int xs0] h Q) : wp SC 582 d s 159 [(0, .ref a0), (1, .int x1), (2, .int x2), (3, .int x3), (5, .int x5), (6, .int x6), (10, .int x10)] [.int xs0] h Q := by
  refine wp_run 1 (pc' := 160) (lv' := [(0, .ref a0), (1, .int x1), (2, .int x2), (3, .int x3), (5, .int x5), (6, .int x6), (10, .int x10)]) (st' := [.int (i32 0), .int xs0]) rfl ?_
  exact wp_weak (re_sb_at rfl (re_sb_at rfl (re_sb_at rfl (re_sb_at rfl (re_sb_at rfl (re_sb_at rfl (re_sb_at rfl (re_sb_nil _)))))))) K
set_option maxRecDepth 20000 in
theorem B582_160 {SC : List Value} {d s : Nat} {h : re_H} {Q : Nat → Value → re_H → Prop} {a0 : Nat} {x1 : Int32} {x2 : Int32} {x3 : Int32} {x5 : Int32} {x6 : Int32} {x10 : Int32} {xs0 : Int32} {xs1 : Int32}
    (K1 : ¬ xs1 = xs0 → wp SC 582 d s 167 [(0, .ref a0), (1, .int x1), (2, .int x2), (3, .int x3), (5, .int x5), (6, .int x6), (10, .int x10)] [] h Q) (K2 : xs1 = xs0 → wp SC 582 d s 163 [(0, .ref a0), (1, .int x1), (2, .int x2), (3, .int x3), (5, .int x5), (6, .int x6), (10, .int x10)] [] h Q) : wp SC 582 d s 160 [(0, .ref a0), (1, .int x1), (2, .int x2), (3, .int x3), (5, .int x5), (6, .int x6), (10, .int x10)] [.int xs0, .int xs1] h Q := by
  exact wp_cmp ⟨rfl, rfl⟩ rfl (fun hc => wp_weak (re_sb_at rfl (re_sb_at rfl (re_sb_at rfl (re_sb_at rfl (re_sb_at rfl (re_sb_at rfl (re_sb_at rfl (re_sb_nil _)))))))) (K1 (ic1_ne hc))) (fun hc => wp_weak (re_sb_at rfl (re_sb_at rfl (re_sb_at rfl (re_sb_at rfl (re_sb_at rfl (re_sb_at rfl (re_sb_at rfl (re_sb_nil _)))))))) (K2 (ic0_ne hc)))
set_option maxRecDepth 20000 in
theorem B582_163 {SC : List Value} {d s : Nat} {h : re_H} {Q : Nat → Value → re_H → Prop} {a0 : Nat} {x1 : Int32} {x2 : Int32} {x3 : Int32} {x5 : Int32} {x6 : Int32} {x10 : Int32}
    (K : wp SC 582 d s 168 [(0, .ref a0), (1, .int x1), (2, .int x2), (3, .int x3), (5, .int x5), (6, .int x6), (10, .int x10)] [.int (i32 1)] h Q) : wp SC 582 d s 163 [(0, .ref a0), (1, .int x1), (2, .int x2), (3, .int x3), (5, .int x5), (6, .int x6), (10, .int x10)] [] h Q := by
  refine wp_run 2 (pc' := 168) (lv' := [(0, .ref a0), (1, .int x1), (2, .int x2), (3, .int x3), (5, .int x5), (6, .int x6), (10, .int x10)]) (st' := [.int (i32 1)]) rfl ?_
  exact wp_weak (re_sb_at rfl (re_sb_at rfl (re_sb_at rfl (re_sb_at rfl (re_sb_at rfl (re_sb_at rfl (re_sb_at rfl (re_sb_nil _)))))))) K
set_option maxRecDepth 20000 in
theorem B582_167 {SC : List Value} {d s : Nat} {h : re_H} {Q : Nat → Value → re_H → Prop} {a0 : Nat} {x1 : Int32} {x2 : Int32} {x3 : Int32} {x5 : Int32} {x6 : Int32} {x10 : Int32}
    (K : wp SC 582 d s 168 [(0, .ref a0), (1, .int x1), (2, .int x2), (3, .int x3), (5, .int x5), (6, .int x6), (10, .int x10)] [.int (i32 0)] h Q) : wp SC 582 d s 167 [(0, .ref a0), (1, .int x1), (2, .int x2), (3, .int x3), (5, .int x5), (6, .int x6), (10, .int x10)] [] h Q := by
  refine wp_run 1 (pc' := 168) (lv' := [(0, .ref a0), (1, .int x1), (2, .int x2), (3, .int x3), (5, .int x5), (6, .int x6), (10, .int x10)]) (st' := [.int (i32 0)]) rfl ?_
  exact wp_weak (re_sb_at rfl (re_sb_at rfl (re_sb_at rfl (re_sb_at rfl (re_sb_at rfl (re_sb_at rfl (re_sb_at rfl (re_sb_nil _)))))))) K
set_option maxRecDepth 20000 in
theorem B582_168 {SC : List Value} {d s : Nat} {h : re_H} {Q : Nat → Value → re_H → Prop} {a0 : Nat} {x1 : Int32} {x2 : Int32} {x3 : Int32} {x5 : Int32} {x6 : Int32} {x10 : Int32} {xs0 : Int32}
    (K : wp SC 582 d s 173 [(0, .ref a0), (1, .int x1), (2, .int x2), (3, .int x3), (4, .int xs0), (5, .int x5), (6, .int x6), (10, .int x10), (11, .int (i32 0))] [] h Q) : wp SC 582 d s 168 [(0, .ref a0), (1, .int x1), (2, .int x2), (3, .int x3), (5, .int x5), (6, .int x6), (10, .int x10)] [.int xs0] h Q := by
  refine wp_run 3 (pc' := 173) (lv' := [(11, .int (i32 0)), (4, .int xs0), (0, .ref a0), (1, .int x1), (2, .int x2), (3, .int x3), (5, .int x5), (6, .int x6), (10, .int x10)]) (st' := []) rfl ?_
  exact wp_weak (re_sb_at rfl (re_sb_at rfl (re_sb_at rfl (re_sb_at rfl (re_sb_at rfl (re_sb_at rfl (re_sb_at rfl (re_sb_at rfl (re_sb_at rfl (re_sb_nil _)))))))))) K
set_option maxRecDepth 20000 in
theorem B582_173 {SC : List Value} {d s : Nat} {h : re_H} {Q : Nat → Value → re_H → Prop} {a0 : Nat} {x1 : Int32} {x2 : Int32} {x3 : Int32} {x4 : Int32} {x5 : Int32} {x6 : Int32} {x10 : Int32} {x11 : Int32}
    (K1 : ¬ x11 < (i32 6) → wp SC 582 d s 328 [(0, .ref a0), (1, .int x1), (2, .int x2), (3, .int x3), (4, .int x4), (5, .int x5)] [] h Q) (K2 : x11 < (i32 6) → wp SC 582 d s 180 [(0, .ref a0), (1, .int x1), (2, .int x2), (3, .int x3), (4, .int x4), (5, .int x5), (6, .int x6), (10, .int x10), (11, .int x11)] [] h Q) : wp SC 582 d s 173 [(0, .ref a0), (1, .int x1), (2, .int x2), (3, .int x3), (4, .int x4), (5, .int x5), (6, .int x6), (10, .int x10), (11, .int x11)] [] h Q := by
  refine wp_run 1 (pc' := 175) (lv' := [(0, .ref a0), (1, .int x1), (2, .int x2), (3, .int x3), (4, .int x4), (5, .int x5), (6, .int x6), (10, .int x10), (11, .int x11)]) (st' := [.int x11]) rfl ?_
  refine wp_bi (x := (i32 6)) ⟨rfl, rfl⟩ (by decide) ?_
  exact wp_cmp ⟨rfl, rfl⟩ rfl (fun hc => wp_weak (re_sb_at rfl (re_sb_at rfl (re_sb_at rfl (re_sb_at rfl (re_sb_at rfl (re_sb_at rfl (re_sb_nil _))))))) (K1 (ic1_ge hc))) (fun hc => wp_weak (re_sb_at rfl (re_sb_at rfl (re_sb_at rfl (re_sb_at rfl (re_sb_at rfl (re_sb_at rfl (re_sb_at rfl (re_sb_at rfl (re_sb_at rfl (re_sb_nil _)))))))))) (K2 (ic0_ge hc)))
set_option maxRecDepth 20000 in
theorem B582_180 {SC : List Value} {d s : Nat} {h : re_H} {Q : Nat → Value → re_H → Prop} {a0 : Nat} {x1 : Int32} {x2 : Int32} {x3 : Int32} {x4 : Int32} {x5 : Int32} {x6 : Int32} {x10 : Int32} {x11 : Int32}
    (K1 : x4 = 0 → wp SC 582 d s 328 [(0, .ref a0), (1, .int x1), (2, .int x2), (3, .int x3), (4, .int x4), (5, .int x5)] [] h Q) (K2 : ¬ x4 = 0 → wp SC 582 d s 185 [(0, .ref a0), (1, .int x1), (2, .int x2), (3, .int x3), (5, .int x5), (6, .int x6), (10, .int x10), (11, .int x11)] [] h Q) : wp SC 582 d s 180 [(0, .ref a0), (1, .int x1), (2, .int x2), (3, .int x3), (4, .int x4), (5, .int x5), (6, .int x6), (10, .int x10), (11, .int x11)] [] h Q := by
  refine wp_run 1 (pc' := 182) (lv' := [(0, .ref a0), (1, .int x1), (2, .int x2), (3, .int x3), (4, .int x4), (5, .int x5), (6, .int x6), (10, .int x10), (11, .int x11)]) (st' := [.int x4]) rfl ?_
  exact wp_if ⟨rfl, rfl⟩ rfl (fun hc => wp_weak (re_sb_at rfl (re_sb_at rfl (re_sb_at rfl (re_sb_at rfl (re_sb_at rfl (re_sb_at rfl (re_sb_nil _))))))) (K1 (ic1_eq hc))) (fun hc => wp_weak (re_sb_at rfl (re_sb_at rfl (re_sb_at rfl (re_sb_at rfl (re_sb_at rfl (re_sb_at rfl (re_sb_at rfl (re_sb_at rfl (re_sb_nil _))))))))) (K2 (ic0_eq hc)))
set_option maxRecDepth 20000 in
theorem B582_185 {SC : List Value} {d s : Nat} {h : re_H} {Q : Nat → Value → re_H → Prop} {a0 : Nat} {x1 : Int32} {x2 : Int32} {x3 : Int32} {x5 : Int32} {x6 : Int32} {x10 : Int32} {x11 : Int32}
    {c : Nat} {w : List Value} (eg : re_hg h a0 = some (c, w)) (ec : c = 0) {s1 s2 : Nat} (hs : s1 + s2 ≤ s) (K : wp SC 33 d s1 0 [(0, .ref a0), (1, .int x5), (2, .int x11)] [] h (wp_ret SC 582 (d + 1) s2 193 [(0, .ref a0), (1, .int x1), (2, .int x2), (3, .int x3), (5, .int x5), (6, .int x6), (10, .int x10), (11, .int x11)] [] Q)) : wp SC 582 (d + 1) s 185 [(0, .ref a0), (1, .int x1), (2, .int x2), (3, .int x3), (5, .int x5), (6, .int x6), (10, .int x10), (11, .int x11)] [] h Q := by
  refine wp_run 3 (pc' := 190) (lv' := [(0, .ref a0), (1, .int x1), (2, .int x2), (3, .int x3), (5, .int x5), (6, .int x6), (10, .int x10), (11, .int x11)]) (st' := [.int x11, .int x5, .ref a0]) rfl ?_
  have eA : lv_args 0 (.ref a0 :: [.int x11, .int x5].reverse) = [(0, .ref a0), (1, .int x5), (2, .int x11)] := by simp [lv_args, vc_i, vc_l, vc_r, vc_n, vc_a]
  refine wp_callV (ar := [.int x11, .int x5]) (rest := []) (s1 := s1) (s2 := s2) (d' := d) ⟨rfl, rfl⟩ rfl (Or.inl rfl)  (by simp [re_cat, vc_i, vc_l, vc_r, vc_n, vc_a]) (by rw [show re_cat (.ref a0 :: [.int x11, .int x5].reverse) = 3 from by simp [re_cat, vc_i, vc_l, vc_r, vc_n, vc_a]]; decide) (by decide) rfl eg ec rfl hs ?_
  rw [eA]
  exact wp_mono K (fun k v h' z => wp_ret_weak (re_sb_at rfl (re_sb_at rfl (re_sb_at rfl (re_sb_at rfl (re_sb_at rfl (re_sb_at rfl (re_sb_at rfl (re_sb_at rfl (re_sb_nil _))))))))) z)
set_option maxRecDepth 20000 in
theorem B582_193 {SC : List Value} {d s : Nat} {h : re_H} {Q : Nat → Value → re_H → Prop} {a0 : Nat} {x1 : Int32} {x2 : Int32} {x3 : Int32} {x5 : Int32} {x6 : Int32} {x10 : Int32} {x11 : Int32} {xs0 : Int32}
    (K1 : x6 = 0 → wp SC 582 d s 205 [(0, .ref a0), (1, .int x1), (2, .int x2), (3, .int x3), (5, .int x5), (6, .int x6), (10, .int x10), (11, .int x11), (12, .int xs0)] [] h Q) (K2 : ¬ x6 = 0 → wp SC 582 d s 200 [(0, .ref a0), (1, .int x1), (2, .int x2), (3, .int x3), (5, .int x5), (6, .int x6), (10, .int x10), (11, .int x11), (12, .int xs0)] [] h Q) : wp SC 582 d s 193 [(0, .ref a0), (1, .int x1), (2, .int x2), (3, .int x3), (5, .int x5), (6, .int x6), (10, .int x10), (11, .int x11)] [.int xs0] h Q := by
  refine wp_run 2 (pc' := 197) (lv' := [(12, .int xs0), (0, .ref a0), (1, .int x1), (2, .int x2), (3, .int x3), (5, .int x5), (6, .int x6), (10, .int x10), (11, .int x11)]) (st' := [.int x6]) rfl ?_
  exact wp_if ⟨rfl, rfl⟩ rfl (fun hc => wp_weak (re_sb_at rfl (re_sb_at rfl (re_sb_at rfl (re_sb_at rfl (re_sb_at rfl (re_sb_at rfl (re_sb_at rfl (re_sb_at rfl (re_sb_at rfl (re_sb_nil _)))))))))) (K1 (ic1_eq hc))) (fun hc => wp_weak (re_sb_at rfl (re_sb_at rfl (re_sb_at rfl (re_sb_at rfl (re_sb_at rfl (re_sb_at rfl (re_sb_at rfl (re_sb_at rfl (re_sb_at rfl (re_sb_nil _)))))))))) (K2 (ic0_eq hc)))
set_option maxRecDepth 20000 in
theorem B582_200 {SC : List Value} {d s : Nat} {h : re_H} {Q : Nat → Value → re_H → Prop} {a0 : Nat} {x1 : Int32} {x2 : Int32} {x3 : Int32} {x5 : Int32} {x6 : Int32} {x10 : Int32} {x11 : Int32} {x12 : Int32}
    (K1 : ¬ x12 = 0 → wp SC 582 d s 319 [(0, .ref a0), (1, .int x1), (2, .int x2), (3, .int x3), (5, .int x5), (6, .int x6), (10, .int x10), (11, .int x11)] [] h Q) (K2 : x12 = 0 → wp SC 582 d s 205 [(0, .ref a0), (1, .int x1), (2, .int x2), (3, .int x3), (5, .int x5), (6, .int x6), (10, .int x10), (11, .int x11), (12, .int x12)] [] h Q) : wp SC 582 d s 200 [(0, .ref a0), (1, .int x1), (2, .int x2), (3, .int x3), (5, .int x5), (6, .int x6), (10, .int x10), (11, .int x11), (12, .int x12)] [] h Q := by
  refine wp_run 1 (pc' := 202) (lv' := [(0, .ref a0), (1, .int x1), (2, .int x2), (3, .int x3), (5, .int x5), (6, .int x6), (10, .int x10), (11, .int x11), (12, .int x12)]) (st' := [.int x12]) rfl ?_
  exact wp_if ⟨rfl, rfl⟩ rfl (fun hc => wp_weak (re_sb_at rfl (re_sb_at rfl (re_sb_at rfl (re_sb_at rfl (re_sb_at rfl (re_sb_at rfl (re_sb_at rfl (re_sb_at rfl (re_sb_nil _))))))))) (K1 (ic1_ne hc))) (fun hc => wp_weak (re_sb_at rfl (re_sb_at rfl (re_sb_at rfl (re_sb_at rfl (re_sb_at rfl (re_sb_at rfl (re_sb_at rfl (re_sb_at rfl (re_sb_at rfl (re_sb_nil _)))))))))) (K2 (ic0_ne hc)))
set_option maxRecDepth 20000 in
theorem B582_205 {SC : List Value} {d s : Nat} {h : re_H} {Q : Nat → Value → re_H → Prop} {a0 : Nat} {x1 : Int32} {x2 : Int32} {x3 : Int32} {x5 : Int32} {x6 : Int32} {x10 : Int32} {x11 : Int32} {x12 : Int32}
    (K1 : ¬ x12 = (i32 1) → wp SC 582 d s 233 [(0, .ref a0), (1, .int x1), (2, .int x2), (3, .int x3), (5, .int x5), (6, .int x6), (10, .int x10), (11, .int x11), (12, .int x12)] [] h Q) (K2 : x12 = (i32 1) → wp SC 582 d s 211 [(0, .ref a0), (1, .int x1), (2, .int x2), (3, .int x3), (5, .int x5), (6, .int x6), (10, .int x10), (11, .int x11), (12, .int x12)] [] h Q) : wp SC 582 d s 205 [(0, .ref a0), (1, .int x1), (2, .int x2), (3, .int x3), (5, .int x5), (6, .int x6), (10, .int x10), (11, .int x11), (12, .int x12)] [] h Q := by
  refine wp_run 2 (pc' := 208) (lv' := [(0, .ref a0), (1, .int x1), (2, .int x2), (3, .int x3), (5, .int x5), (6, .int x6), (10, .int x10), (11, .int x11), (12, .int x12)]) (st' := [.int (i32 1), .int x12]) rfl ?_
  exact wp_cmp ⟨rfl, rfl⟩ rfl (fun hc => wp_weak (re_sb_at rfl (re_sb_at rfl (re_sb_at rfl (re_sb_at rfl (re_sb_at rfl (re_sb_at rfl (re_sb_at rfl (re_sb_at rfl (re_sb_at rfl (re_sb_nil _)))))))))) (K1 (ic1_ne hc))) (fun hc => wp_weak (re_sb_at rfl (re_sb_at rfl (re_sb_at rfl (re_sb_at rfl (re_sb_at rfl (re_sb_at rfl (re_sb_at rfl (re_sb_at rfl (re_sb_at rfl (re_sb_nil _)))))))))) (K2 (ic0_ne hc)))
set_option maxRecDepth 20000 in
theorem B582_211 {SC : List Value} {d s : Nat} {h : re_H} {Q : Nat → Value → re_H → Prop} {a0 : Nat} {x1 : Int32} {x2 : Int32} {x3 : Int32} {x5 : Int32} {x6 : Int32} {x10 : Int32} {x11 : Int32} {x12 : Int32}
    (K : wp SC 579 d 0 0 [(0, .ref a0), (1, .int (i32 24)), (2, .int x5), (3, .int x11)] [] h (wp_ret SC 582 (d + 1) s 221 [(0, .ref a0), (1, .int x1), (2, .int x2), (3, .int x3), (5, .int x5), (6, .int x6), (10, .int x10), (11, .int x11), (12, .int x12)] [] Q)) : wp SC 582 (d + 1) s 211 [(0, .ref a0), (1, .int x1), (2, .int x2), (3, .int x3), (5, .int x5), (6, .int x6), (10, .int x10), (11, .int x11), (12, .int x12)] [] h Q := by
  refine wp_run 1 (pc' := 212) (lv' := [(0, .ref a0), (1, .int x1), (2, .int x2), (3, .int x3), (5, .int x5), (6, .int x6), (10, .int x10), (11, .int x11), (12, .int x12)]) (st' := [.ref a0]) rfl ?_
  refine wp_bi (x := (i32 24)) ⟨rfl, rfl⟩ (by decide) ?_
  refine wp_run 2 (pc' := 218) (lv' := [(0, .ref a0), (1, .int x1), (2, .int x2), (3, .int x3), (5, .int x5), (6, .int x6), (10, .int x10), (11, .int x11), (12, .int x12)]) (st' := [.int x11, .int x5, .int (i32 24), .ref a0]) rfl ?_
  have eA : lv_args 0 ([.int x11, .int x5, .int (i32 24), .ref a0].reverse) = [(0, .ref a0), (1, .int (i32 24)), (2, .int x5), (3, .int x11)] := by simp [lv_args, vc_i, vc_l, vc_r, vc_n, vc_a]
  refine wp_callS (ar := [.int x11, .int x5, .int (i32 24), .ref a0]) (rest := []) (s1 := 0) (s2 := s) (d' := d) ⟨rfl, rfl⟩ rfl (Or.inr (Or.inr rfl)) rfl (by simp [re_cat, vc_i, vc_l, vc_r, vc_n, vc_a]) (by rw [show re_cat ([.int x11, .int x5, .int (i32 24), .ref a0].reverse) = 4 from by simp [re_cat, vc_i, vc_l, vc_r, vc_n, vc_a]]; decide) (by decide) rfl rfl (Nat.le_of_eq (Nat.zero_add s)) ?_
  rw [eA]
  exact wp_mono K (fun k v h' z => wp_ret_weak (re_sb_at rfl (re_sb_at rfl (re_sb_at rfl (re_sb_at rfl (re_sb_at rfl (re_sb_at rfl (re_sb_at rfl (re_sb_at rfl (re_sb_at rfl (re_sb_nil _)))))))))) z)
set_option maxRecDepth 20000 in
theorem B582_221 {SC : List Value} {d s : Nat} {h : re_H} {Q : Nat → Value → re_H → Prop} {a0 : Nat} {x1 : Int32} {x2 : Int32} {x3 : Int32} {x5 : Int32} {x6 : Int32} {x10 : Int32} {x11 : Int32} {x12 : Int32} {ls0 : Int64}
    {c : Nat} {w : List Value} (eg : re_hg h a0 = some (c, w)) (ec : c = 0) {s1 s2 : Nat} (hs : s1 + s2 ≤ s) (K : wp SC 34 d s1 0 [(0, .ref a0), (1, .int x5), (2, .int x11)] [] h (wp_ret SC 582 (d + 1) s2 229 [(0, .ref a0), (1, .int x1), (2, .int x2), (3, .int x3), (5, .int x5), (6, .int x6), (10, .int x10), (11, .int x11), (12, .int x12)] [.long ls0] Q)) : wp SC 582 (d + 1) s 221 [(0, .ref a0), (1, .int x1), (2, .int x2), (3, .int x3), (5, .int x5), (6, .int x6), (10, .int x10), (11, .int x11), (12, .int x12)] [.long ls0] h Q := by
  refine wp_run 3 (pc' := 226) (lv' := [(0, .ref a0), (1, .int x1), (2, .int x2), (3, .int x3), (5, .int x5), (6, .int x6), (10, .int x10), (11, .int x11), (12, .int x12)]) (st' := [.int x11, .int x5, .ref a0, .long ls0]) rfl ?_
  have eA : lv_args 0 (.ref a0 :: [.int x11, .int x5].reverse) = [(0, .ref a0), (1, .int x5), (2, .int x11)] := by simp [lv_args, vc_i, vc_l, vc_r, vc_n, vc_a]
  refine wp_callV (ar := [.int x11, .int x5]) (rest := [.long ls0]) (s1 := s1) (s2 := s2) (d' := d) ⟨rfl, rfl⟩ rfl (Or.inl rfl)  (by simp [re_cat, vc_i, vc_l, vc_r, vc_n, vc_a]) (by rw [show re_cat (.ref a0 :: [.int x11, .int x5].reverse) = 3 from by simp [re_cat, vc_i, vc_l, vc_r, vc_n, vc_a]]; decide) (by decide) rfl eg ec rfl hs ?_
  rw [eA]
  exact wp_mono K (fun k v h' z => wp_ret_weak (re_sb_at rfl (re_sb_at rfl (re_sb_at rfl (re_sb_at rfl (re_sb_at rfl (re_sb_at rfl (re_sb_at rfl (re_sb_at rfl (re_sb_at rfl (re_sb_nil _)))))))))) z)
set_option maxRecDepth 20000 in
theorem B582_229 {SC : List Value} {d s : Nat} {h : re_H} {Q : Nat → Value → re_H → Prop} {a0 : Nat} {x1 : Int32} {x2 : Int32} {x3 : Int32} {x5 : Int32} {x6 : Int32} {x10 : Int32} {x11 : Int32} {x12 : Int32} {ls0 : Int64} {ls1 : Int64}
    (K1 : ¬ ls1 = ls0 → wp SC 582 d s 319 [(0, .ref a0), (1, .int x1), (2, .int x2), (3, .int x3), (5, .int x5), (6, .int x6), (10, .int x10), (11, .int x11)] [] h Q) (K2 : ls1 = ls0 → wp SC 582 d s 233 [(0, .ref a0), (1, .int x1), (2, .int x2), (3, .int x3), (5, .int x5), (6, .int x6), (10, .int x10), (11, .int x11), (12, .int x12)] [] h Q) : wp SC 582 d s 229 [(0, .ref a0), (1, .int x1), (2, .int x2), (3, .int x3), (5, .int x5), (6, .int x6), (10, .int x10), (11, .int x11), (12, .int x12)] [.long ls0, .long ls1] h Q := by
  refine wp_run 1 (pc' := 230) (lv' := [(0, .ref a0), (1, .int x1), (2, .int x2), (3, .int x3), (5, .int x5), (6, .int x6), (10, .int x10), (11, .int x11), (12, .int x12)]) (st' := [.int (lg_cmp ls1 ls0)]) rfl ?_
  exact wp_if ⟨rfl, rfl⟩ rfl (fun hc => wp_weak (re_sb_at rfl (re_sb_at rfl (re_sb_at rfl (re_sb_at rfl (re_sb_at rfl (re_sb_at rfl (re_sb_at rfl (re_sb_at rfl (re_sb_nil _))))))))) (K1 (lc1_ne hc))) (fun hc => wp_weak (re_sb_at rfl (re_sb_at rfl (re_sb_at rfl (re_sb_at rfl (re_sb_at rfl (re_sb_at rfl (re_sb_at rfl (re_sb_at rfl (re_sb_at rfl (re_sb_nil _)))))))))) (K2 (lc0_ne hc)))
set_option maxRecDepth 20000 in
theorem B582_233 {SC : List Value} {d s : Nat} {h : re_H} {Q : Nat → Value → re_H → Prop} {a0 : Nat} {x1 : Int32} {x2 : Int32} {x3 : Int32} {x5 : Int32} {x6 : Int32} {x10 : Int32} {x11 : Int32} {x12 : Int32}
    (K1 : x12 = (i32 1) → wp SC 582 d s 256 [(0, .ref a0), (1, .int x1), (2, .int x2), (3, .int x3), (5, .int x5), (6, .int x6), (10, .int x10), (11, .int x11), (12, .int x12)] [] h Q) (K2 : ¬ x12 = (i32 1) → wp SC 582 d s 239 [(0, .ref a0), (1, .int x1), (2, .int x2), (3, .int x3), (5, .int x5), (6, .int x6), (10, .int x10), (11, .int x11), (12, .int x12)] [] h Q) : wp SC 582 d s 233 [(0, .ref a0), (1, .int x1), (2, .int x2), (3, .int x3), (5, .int x5), (6, .int x6), (10, .int x10), (11, .int x11), (12, .int x12)] [] h Q := by
  refine wp_run 2 (pc' := 236) (lv' := [(0, .ref a0), (1, .int x1), (2, .int x2), (3, .int x3), (5, .int x5), (6, .int x6), (10, .int x10), (11, .int x11), (12, .int x12)]) (st' := [.int (i32 1), .int x12]) rfl ?_
  exact wp_cmp ⟨rfl, rfl⟩ rfl (fun hc => wp_weak (re_sb_at rfl (re_sb_at rfl (re_sb_at rfl (re_sb_at rfl (re_sb_at rfl (re_sb_at rfl (re_sb_at rfl (re_sb_at rfl (re_sb_at rfl (re_sb_nil _)))))))))) (K1 (ic1_eq hc))) (fun hc => wp_weak (re_sb_at rfl (re_sb_at rfl (re_sb_at rfl (re_sb_at rfl (re_sb_at rfl (re_sb_at rfl (re_sb_at rfl (re_sb_at rfl (re_sb_at rfl (re_sb_nil _)))))))))) (K2 (ic0_eq hc)))
set_option maxRecDepth 20000 in
theorem B582_239 {SC : List Value} {d s : Nat} {h : re_H} {Q : Nat → Value → re_H → Prop} {a0 : Nat} {x1 : Int32} {x2 : Int32} {x3 : Int32} {x5 : Int32} {x6 : Int32} {x10 : Int32} {x11 : Int32} {x12 : Int32}
    (K : wp SC 579 d 0 0 [(0, .ref a0), (1, .int (i32 24)), (2, .int x5), (3, .int x11)] [] h (wp_ret SC 582 (d + 1) s 249 [(0, .ref a0), (1, .int x1), (2, .int x2), (3, .int x3), (5, .int x5), (6, .int x6), (10, .int x10), (11, .int x11), (12, .int x12)] [] Q)) : wp SC 582 (d + 1) s 239 [(0, .ref a0), (1, .int x1), (2, .int x2), (3, .int x3), (5, .int x5), (6, .int x6), (10, .int x10), (11, .int x11), (12, .int x12)] [] h Q := by
  refine wp_run 1 (pc' := 240) (lv' := [(0, .ref a0), (1, .int x1), (2, .int x2), (3, .int x3), (5, .int x5), (6, .int x6), (10, .int x10), (11, .int x11), (12, .int x12)]) (st' := [.ref a0]) rfl ?_
  refine wp_bi (x := (i32 24)) ⟨rfl, rfl⟩ (by decide) ?_
  refine wp_run 2 (pc' := 246) (lv' := [(0, .ref a0), (1, .int x1), (2, .int x2), (3, .int x3), (5, .int x5), (6, .int x6), (10, .int x10), (11, .int x11), (12, .int x12)]) (st' := [.int x11, .int x5, .int (i32 24), .ref a0]) rfl ?_
  have eA : lv_args 0 ([.int x11, .int x5, .int (i32 24), .ref a0].reverse) = [(0, .ref a0), (1, .int (i32 24)), (2, .int x5), (3, .int x11)] := by simp [lv_args, vc_i, vc_l, vc_r, vc_n, vc_a]
  refine wp_callS (ar := [.int x11, .int x5, .int (i32 24), .ref a0]) (rest := []) (s1 := 0) (s2 := s) (d' := d) ⟨rfl, rfl⟩ rfl (Or.inr (Or.inr rfl)) rfl (by simp [re_cat, vc_i, vc_l, vc_r, vc_n, vc_a]) (by rw [show re_cat ([.int x11, .int x5, .int (i32 24), .ref a0].reverse) = 4 from by simp [re_cat, vc_i, vc_l, vc_r, vc_n, vc_a]]; decide) (by decide) rfl rfl (Nat.le_of_eq (Nat.zero_add s)) ?_
  rw [eA]
  exact wp_mono K (fun k v h' z => wp_ret_weak (re_sb_at rfl (re_sb_at rfl (re_sb_at rfl (re_sb_at rfl (re_sb_at rfl (re_sb_at rfl (re_sb_at rfl (re_sb_at rfl (re_sb_at rfl (re_sb_nil _)))))))))) z)
set_option maxRecDepth 20000 in
theorem B582_249 {SC : List Value} {d s : Nat} {h : re_H} {Q : Nat → Value → re_H → Prop} {a0 : Nat} {x1 : Int32} {x2 : Int32} {x3 : Int32} {x5 : Int32} {x6 : Int32} {x10 : Int32} {x11 : Int32} {x12 : Int32} {ls0 : Int64}
    (K1 : ¬ ls0 = (-2000000003) → wp SC 582 d s 319 [(0, .ref a0), (1, .int x1), (2, .int x2), (3, .int x3), (5, .int x5), (6, .int x6), (10, .int x10), (11, .int x11)] [] h Q) (K2 : ls0 = (-2000000003) → wp SC 582 d s 256 [(0, .ref a0), (1, .int x1), (2, .int x2), (3, .int x3), (5, .int x5), (6, .int x6), (10, .int x10), (11, .int x11), (12, .int x12)] [] h Q) : wp SC 582 d s 249 [(0, .ref a0), (1, .int x1), (2, .int x2), (3, .int x3), (5, .int x5), (6, .int x6), (10, .int x10), (11, .int x11), (12, .int x12)] [.long ls0] h Q := by
  refine wp_cst (pc' := 252) (v := .long (-2000000003)) ⟨rfl, rfl⟩ rfl rfl rfl rfl rfl ?_
  refine wp_run 1 (pc' := 253) (lv' := [(0, .ref a0), (1, .int x1), (2, .int x2), (3, .int x3), (5, .int x5), (6, .int x6), (10, .int x10), (11, .int x11), (12, .int x12)]) (st' := [.int (lg_cmp ls0 (-2000000003))]) rfl ?_
  exact wp_if ⟨rfl, rfl⟩ rfl (fun hc => wp_weak (re_sb_at rfl (re_sb_at rfl (re_sb_at rfl (re_sb_at rfl (re_sb_at rfl (re_sb_at rfl (re_sb_at rfl (re_sb_at rfl (re_sb_nil _))))))))) (K1 (lc1_ne hc))) (fun hc => wp_weak (re_sb_at rfl (re_sb_at rfl (re_sb_at rfl (re_sb_at rfl (re_sb_at rfl (re_sb_at rfl (re_sb_at rfl (re_sb_at rfl (re_sb_at rfl (re_sb_nil _)))))))))) (K2 (lc0_ne hc)))
set_option maxRecDepth 20000 in
theorem B582_256 {SC : List Value} {d s : Nat} {h : re_H} {Q : Nat → Value → re_H → Prop} {a0 : Nat} {x1 : Int32} {x2 : Int32} {x3 : Int32} {x5 : Int32} {x6 : Int32} {x10 : Int32} {x11 : Int32} {x12 : Int32}
    (K1 : ¬ x10 = 0 → wp SC 582 d s 315 [(0, .ref a0), (1, .int x1), (2, .int x2), (3, .int x3), (5, .int x5), (6, .int x6), (10, .int x10), (11, .int x11)] [] h Q) (K2 : x10 = 0 → wp SC 582 d s 261 [(0, .ref a0), (1, .int x1), (2, .int x2), (3, .int x3), (5, .int x5), (6, .int x6), (10, .int x10), (11, .int x11), (12, .int x12)] [] h Q) : wp SC 582 d s 256 [(0, .ref a0), (1, .int x1), (2, .int x2), (3, .int x3), (5, .int x5), (6, .int x6), (10, .int x10), (11, .int x11), (12, .int x12)] [] h Q := by
  refine wp_run 1 (pc' := 258) (lv' := [(0, .ref a0), (1, .int x1), (2, .int x2), (3, .int x3), (5, .int x5), (6, .int x6), (10, .int x10), (11, .int x11), (12, .int x12)]) (st' := [.int x10]) rfl ?_
  exact wp_if ⟨rfl, rfl⟩ rfl (fun hc => wp_weak (re_sb_at rfl (re_sb_at rfl (re_sb_at rfl (re_sb_at rfl (re_sb_at rfl (re_sb_at rfl (re_sb_at rfl (re_sb_at rfl (re_sb_nil _))))))))) (K1 (ic1_ne hc))) (fun hc => wp_weak (re_sb_at rfl (re_sb_at rfl (re_sb_at rfl (re_sb_at rfl (re_sb_at rfl (re_sb_at rfl (re_sb_at rfl (re_sb_at rfl (re_sb_at rfl (re_sb_nil _)))))))))) (K2 (ic0_ne hc)))
set_option maxRecDepth 20000 in
theorem B582_261 {SC : List Value} {d s : Nat} {h : re_H} {Q : Nat → Value → re_H → Prop} {a0 : Nat} {x1 : Int32} {x2 : Int32} {x3 : Int32} {x5 : Int32} {x6 : Int32} {x10 : Int32} {x11 : Int32} {x12 : Int32}
    (K1 : ¬ x12 = (i32 1) → wp SC 582 d s 290 [(0, .ref a0), (1, .int x1), (2, .int x2), (3, .int x3), (5, .int x5), (6, .int x6), (10, .int x10), (11, .int x11)] [] h Q) (K2 : x12 = (i32 1) → wp SC 582 d s 267 [(0, .ref a0), (1, .int x1), (2, .int x2), (3, .int x3), (5, .int x5), (6, .int x6), (10, .int x10), (11, .int x11)] [] h Q) : wp SC 582 d s 261 [(0, .ref a0), (1, .int x1), (2, .int x2), (3, .int x3), (5, .int x5), (6, .int x6), (10, .int x10), (11, .int x11), (12, .int x12)] [] h Q := by
  refine wp_run 2 (pc' := 264) (lv' := [(0, .ref a0), (1, .int x1), (2, .int x2), (3, .int x3), (5, .int x5), (6, .int x6), (10, .int x10), (11, .int x11), (12, .int x12)]) (st' := [.int (i32 1), .int x12]) rfl ?_
  exact wp_cmp ⟨rfl, rfl⟩ rfl (fun hc => wp_weak (re_sb_at rfl (re_sb_at rfl (re_sb_at rfl (re_sb_at rfl (re_sb_at rfl (re_sb_at rfl (re_sb_at rfl (re_sb_at rfl (re_sb_nil _))))))))) (K1 (ic1_ne hc))) (fun hc => wp_weak (re_sb_at rfl (re_sb_at rfl (re_sb_at rfl (re_sb_at rfl (re_sb_at rfl (re_sb_at rfl (re_sb_at rfl (re_sb_at rfl (re_sb_nil _))))))))) (K2 (ic0_ne hc)))
set_option maxRecDepth 20000 in
theorem B582_267 {SC : List Value} {d s : Nat} {h : re_H} {Q : Nat → Value → re_H → Prop} {a0 : Nat} {x1 : Int32} {x2 : Int32} {x3 : Int32} {x5 : Int32} {x6 : Int32} {x10 : Int32} {x11 : Int32}
    {c : Nat} {w : List Value} (eg : re_hg h a0 = some (c, w)) (ec : c = 0) {s1 s2 : Nat} (hs : s1 + s2 ≤ s) (K : wp SC 35 d s1 0 [(0, .ref a0), (1, .int x5), (2, .int x11)] [] h (wp_ret SC 582 (d + 1) s2 275 [(0, .ref a0), (1, .int x1), (2, .int x2), (3, .int x3), (5, .int x5), (6, .int x6), (10, .int x10), (11, .int x11)] [] Q)) : wp SC 582 (d + 1) s 267 [(0, .ref a0), (1, .int x1), (2, .int x2), (3, .int x3), (5, .int x5), (6, .int x6), (10, .int x10), (11, .int x11)] [] h Q := by
  refine wp_run 3 (pc' := 272) (lv' := [(0, .ref a0), (1, .int x1), (2, .int x2), (3, .int x3), (5, .int x5), (6, .int x6), (10, .int x10), (11, .int x11)]) (st' := [.int x11, .int x5, .ref a0]) rfl ?_
  have eA : lv_args 0 (.ref a0 :: [.int x11, .int x5].reverse) = [(0, .ref a0), (1, .int x5), (2, .int x11)] := by simp [lv_args, vc_i, vc_l, vc_r, vc_n, vc_a]
  refine wp_callV (ar := [.int x11, .int x5]) (rest := []) (s1 := s1) (s2 := s2) (d' := d) ⟨rfl, rfl⟩ rfl (Or.inl rfl)  (by simp [re_cat, vc_i, vc_l, vc_r, vc_n, vc_a]) (by rw [show re_cat (.ref a0 :: [.int x11, .int x5].reverse) = 3 from by simp [re_cat, vc_i, vc_l, vc_r, vc_n, vc_a]]; decide) (by decide) rfl eg ec rfl hs ?_
  rw [eA]
  exact wp_mono K (fun k v h' z => wp_ret_weak (re_sb_at rfl (re_sb_at rfl (re_sb_at rfl (re_sb_at rfl (re_sb_at rfl (re_sb_at rfl (re_sb_at rfl (re_sb_at rfl (re_sb_nil _))))))))) z)
set_option maxRecDepth 20000 in
theorem B582_275 {SC : List Value} {d s : Nat} {h : re_H} {Q : Nat → Value → re_H → Prop} {a0 : Nat} {x1 : Int32} {x2 : Int32} {x3 : Int32} {x5 : Int32} {x6 : Int32} {x10 : Int32} {x11 : Int32} {ls0 : Int64}
    {c : Nat} {w : List Value} (eg : re_hg h a0 = some (c, w)) (ec : c = 0) {s1 s2 : Nat} (hs : s1 + s2 ≤ s) (K : wp SC 34 d s1 0 [(0, .ref a0), (1, .int x5), (2, .int x11)] [] h (wp_ret SC 582 (d + 1) s2 283 [(0, .ref a0), (1, .int x1), (2, .int x2), (3, .int x3), (5, .int x5), (6, .int x6), (10, .int x10), (11, .int x11)] [.long ls0] Q)) : wp SC 582 (d + 1) s 275 [(0, .ref a0), (1, .int x1), (2, .int x2), (3, .int x3), (5, .int x5), (6, .int x6), (10, .int x10), (11, .int x11)] [.long ls0] h Q := by
  refine wp_run 3 (pc' := 280) (lv' := [(0, .ref a0), (1, .int x1), (2, .int x2), (3, .int x3), (5, .int x5), (6, .int x6), (10, .int x10), (11, .int x11)]) (st' := [.int x11, .int x5, .ref a0, .long ls0]) rfl ?_
  have eA : lv_args 0 (.ref a0 :: [.int x11, .int x5].reverse) = [(0, .ref a0), (1, .int x5), (2, .int x11)] := by simp [lv_args, vc_i, vc_l, vc_r, vc_n, vc_a]
  refine wp_callV (ar := [.int x11, .int x5]) (rest := [.long ls0]) (s1 := s1) (s2 := s2) (d' := d) ⟨rfl, rfl⟩ rfl (Or.inl rfl)  (by simp [re_cat, vc_i, vc_l, vc_r, vc_n, vc_a]) (by rw [show re_cat (.ref a0 :: [.int x11, .int x5].reverse) = 3 from by simp [re_cat, vc_i, vc_l, vc_r, vc_n, vc_a]]; decide) (by decide) rfl eg ec rfl hs ?_
  rw [eA]
  exact wp_mono K (fun k v h' z => wp_ret_weak (re_sb_at rfl (re_sb_at rfl (re_sb_at rfl (re_sb_at rfl (re_sb_at rfl (re_sb_at rfl (re_sb_at rfl (re_sb_at rfl (re_sb_nil _))))))))) z)
set_option maxRecDepth 20000 in
theorem B582_283 {SC : List Value} {d s : Nat} {h : re_H} {Q : Nat → Value → re_H → Prop} {a0 : Nat} {x1 : Int32} {x2 : Int32} {x3 : Int32} {x5 : Int32} {x6 : Int32} {x10 : Int32} {x11 : Int32} {ls0 : Int64} {ls1 : Int64}
    (K1 : ¬ ls1 = ls0 → wp SC 582 d s 319 [(0, .ref a0), (1, .int x1), (2, .int x2), (3, .int x3), (5, .int x5), (6, .int x6), (10, .int x10), (11, .int x11)] [] h Q) (K2 : ls1 = ls0 → wp SC 582 d s 287 [(0, .ref a0), (1, .int x1), (2, .int x2), (3, .int x3), (5, .int x5), (6, .int x6), (10, .int x10), (11, .int x11)] [] h Q) : wp SC 582 d s 283 [(0, .ref a0), (1, .int x1), (2, .int x2), (3, .int x3), (5, .int x5), (6, .int x6), (10, .int x10), (11, .int x11)] [.long ls0, .long ls1] h Q := by
  refine wp_run 1 (pc' := 284) (lv' := [(0, .ref a0), (1, .int x1), (2, .int x2), (3, .int x3), (5, .int x5), (6, .int x6), (10, .int x10), (11, .int x11)]) (st' := [.int (lg_cmp ls1 ls0)]) rfl ?_
  exact wp_if ⟨rfl, rfl⟩ rfl (fun hc => wp_weak (re_sb_at rfl (re_sb_at rfl (re_sb_at rfl (re_sb_at rfl (re_sb_at rfl (re_sb_at rfl (re_sb_at rfl (re_sb_at rfl (re_sb_nil _))))))))) (K1 (lc1_ne hc))) (fun hc => wp_weak (re_sb_at rfl (re_sb_at rfl (re_sb_at rfl (re_sb_at rfl (re_sb_at rfl (re_sb_at rfl (re_sb_at rfl (re_sb_at rfl (re_sb_nil _))))))))) (K2 (lc0_ne hc)))
set_option maxRecDepth 20000 in
theorem B582_287 {SC : List Value} {d s : Nat} {h : re_H} {Q : Nat → Value → re_H → Prop} {a0 : Nat} {x1 : Int32} {x2 : Int32} {x3 : Int32} {x5 : Int32} {x6 : Int32} {x10 : Int32} {x11 : Int32}
    (K : wp SC 582 d s 315 [(0, .ref a0), (1, .int x1), (2, .int x2), (3, .int x3), (5, .int x5), (6, .int x6), (10, .int x10), (11, .int x11)] [] h Q) : wp SC 582 d s 287 [(0, .ref a0), (1, .int x1), (2, .int x2), (3, .int x3), (5, .int x5), (6, .int x6), (10, .int x10), (11, .int x11)] [] h Q := by
  refine wp_run 1 (pc' := 315) (lv' := [(0, .ref a0), (1, .int x1), (2, .int x2), (3, .int x3), (5, .int x5), (6, .int x6), (10, .int x10), (11, .int x11)]) (st' := []) rfl ?_
  exact wp_weak (re_sb_at rfl (re_sb_at rfl (re_sb_at rfl (re_sb_at rfl (re_sb_at rfl (re_sb_at rfl (re_sb_at rfl (re_sb_at rfl (re_sb_nil _))))))))) K
set_option maxRecDepth 20000 in
theorem B582_290 {SC : List Value} {d s : Nat} {h : re_H} {Q : Nat → Value → re_H → Prop} {a0 : Nat} {x1 : Int32} {x2 : Int32} {x3 : Int32} {x5 : Int32} {x6 : Int32} {x10 : Int32} {x11 : Int32}
    (K1 : ¬ x11 = (x5 - x5 / (i32 6) * (i32 6)) → wp SC 582 d s 315 [(0, .ref a0), (1, .int x1), (2, .int x2), (3, .int x3), (5, .int x5), (6, .int x6), (10, .int x10), (11, .int x11)] [] h Q) (K2 : x11 = (x5 - x5 / (i32 6) * (i32 6)) → wp SC 582 d s 300 [(0, .ref a0), (1, .int x1), (2, .int x2), (3, .int x3), (5, .int x5), (6, .int x6), (10, .int x10), (11, .int x11)] [] h Q) : wp SC 582 d s 290 [(0, .ref a0), (1, .int x1), (2, .int x2), (3, .int x3), (5, .int x5), (6, .int x6), (10, .int x10), (11, .int x11)] [] h Q := by
  refine wp_run 2 (pc' := 294) (lv' := [(0, .ref a0), (1, .int x1), (2, .int x2), (3, .int x3), (5, .int x5), (6, .int x6), (10, .int x10), (11, .int x11)]) (st' := [.int x5, .int x11]) rfl ?_
  refine wp_bi (x := (i32 6)) ⟨rfl, rfl⟩ (by decide) ?_
  refine wp_pure (pc' := 297) (lv' := [(0, .ref a0), (1, .int x1), (2, .int x2), (3, .int x3), (5, .int x5), (6, .int x6), (10, .int x10), (11, .int x11)]) (st' := [.int (x5 - x5 / (i32 6) * (i32 6)), .int x11]) ⟨rfl, rfl⟩ (by simp only [re_pure, if_neg (show ¬ (i32 6) = 0 from by decide)]) ?_
  exact wp_cmp ⟨rfl, rfl⟩ rfl (fun hc => wp_weak (re_sb_at rfl (re_sb_at rfl (re_sb_at rfl (re_sb_at rfl (re_sb_at rfl (re_sb_at rfl (re_sb_at rfl (re_sb_at rfl (re_sb_nil _))))))))) (K1 (ic1_ne hc))) (fun hc => wp_weak (re_sb_at rfl (re_sb_at rfl (re_sb_at rfl (re_sb_at rfl (re_sb_at rfl (re_sb_at rfl (re_sb_at rfl (re_sb_at rfl (re_sb_nil _))))))))) (K2 (ic0_ne hc)))
set_option maxRecDepth 20000 in
theorem B582_300 {SC : List Value} {d s : Nat} {h : re_H} {Q : Nat → Value → re_H → Prop} {a0 : Nat} {x1 : Int32} {x2 : Int32} {x3 : Int32} {x5 : Int32} {x6 : Int32} {x10 : Int32} {x11 : Int32}
    {c : Nat} {w : List Value} (eg : re_hg h a0 = some (c, w)) (ec : c = 0) {s1 s2 : Nat} (hs : s1 + s2 ≤ s) (K : wp SC 35 d s1 0 [(0, .ref a0), (1, .int x5), (2, .int x11)] [] h (wp_ret SC 582 (d + 1) s2 308 [(0, .ref a0), (1, .int x1), (2, .int x2), (3, .int x3), (5, .int x5), (6, .int x6), (10, .int x10), (11, .int x11)] [] Q)) : wp SC 582 (d + 1) s 300 [(0, .ref a0), (1, .int x1), (2, .int x2), (3, .int x3), (5, .int x5), (6, .int x6), (10, .int x10), (11, .int x11)] [] h Q := by
  refine wp_run 3 (pc' := 305) (lv' := [(0, .ref a0), (1, .int x1), (2, .int x2), (3, .int x3), (5, .int x5), (6, .int x6), (10, .int x10), (11, .int x11)]) (st' := [.int x11, .int x5, .ref a0]) rfl ?_
  have eA : lv_args 0 (.ref a0 :: [.int x11, .int x5].reverse) = [(0, .ref a0), (1, .int x5), (2, .int x11)] := by simp [lv_args, vc_i, vc_l, vc_r, vc_n, vc_a]
  refine wp_callV (ar := [.int x11, .int x5]) (rest := []) (s1 := s1) (s2 := s2) (d' := d) ⟨rfl, rfl⟩ rfl (Or.inl rfl)  (by simp [re_cat, vc_i, vc_l, vc_r, vc_n, vc_a]) (by rw [show re_cat (.ref a0 :: [.int x11, .int x5].reverse) = 3 from by simp [re_cat, vc_i, vc_l, vc_r, vc_n, vc_a]]; decide) (by decide) rfl eg ec rfl hs ?_
  rw [eA]
  exact wp_mono K (fun k v h' z => wp_ret_weak (re_sb_at rfl (re_sb_at rfl (re_sb_at rfl (re_sb_at rfl (re_sb_at rfl (re_sb_at rfl (re_sb_at rfl (re_sb_at rfl (re_sb_nil _))))))))) z)
set_option maxRecDepth 20000 in
theorem B582_308 {SC : List Value} {d s : Nat} {h : re_H} {Q : Nat → Value → re_H → Prop} {a0 : Nat} {x1 : Int32} {x2 : Int32} {x3 : Int32} {x5 : Int32} {x6 : Int32} {x10 : Int32} {x11 : Int32} {ls0 : Int64}
    (K1 : ¬ ls0 = (-1) → wp SC 582 d s 319 [(0, .ref a0), (1, .int x1), (2, .int x2), (3, .int x3), (5, .int x5), (6, .int x6), (10, .int x10), (11, .int x11)] [] h Q) (K2 : ls0 = (-1) → wp SC 582 d s 315 [(0, .ref a0), (1, .int x1), (2, .int x2), (3, .int x3), (5, .int x5), (6, .int x6), (10, .int x10), (11, .int x11)] [] h Q) : wp SC 582 d s 308 [(0, .ref a0), (1, .int x1), (2, .int x2), (3, .int x3), (5, .int x5), (6, .int x6), (10, .int x10), (11, .int x11)] [.long ls0] h Q := by
  refine wp_cst (pc' := 311) (v := .long (-1)) ⟨rfl, rfl⟩ rfl rfl rfl rfl rfl ?_
  refine wp_run 1 (pc' := 312) (lv' := [(0, .ref a0), (1, .int x1), (2, .int x2), (3, .int x3), (5, .int x5), (6, .int x6), (10, .int x10), (11, .int x11)]) (st' := [.int (lg_cmp ls0 (-1))]) rfl ?_
  exact wp_if ⟨rfl, rfl⟩ rfl (fun hc => wp_weak (re_sb_at rfl (re_sb_at rfl (re_sb_at rfl (re_sb_at rfl (re_sb_at rfl (re_sb_at rfl (re_sb_at rfl (re_sb_at rfl (re_sb_nil _))))))))) (K1 (lc1_ne hc))) (fun hc => wp_weak (re_sb_at rfl (re_sb_at rfl (re_sb_at rfl (re_sb_at rfl (re_sb_at rfl (re_sb_at rfl (re_sb_at rfl (re_sb_at rfl (re_sb_nil _))))))))) (K2 (lc0_ne hc)))
set_option maxRecDepth 20000 in
theorem B582_315 {SC : List Value} {d s : Nat} {h : re_H} {Q : Nat → Value → re_H → Prop} {a0 : Nat} {x1 : Int32} {x2 : Int32} {x3 : Int32} {x5 : Int32} {x6 : Int32} {x10 : Int32} {x11 : Int32}
    (K : wp SC 582 d s 320 [(0, .ref a0), (1, .int x1), (2, .int x2), (3, .int x3), (5, .int x5), (6, .int x6), (10, .int x10), (11, .int x11)] [.int (i32 1)] h Q) : wp SC 582 d s 315 [(0, .ref a0), (1, .int x1), (2, .int x2), (3, .int x3), (5, .int x5), (6, .int x6), (10, .int x10), (11, .int x11)] [] h Q := by
  refine wp_run 2 (pc' := 320) (lv' := [(0, .ref a0), (1, .int x1), (2, .int x2), (3, .int x3), (5, .int x5), (6, .int x6), (10, .int x10), (11, .int x11)]) (st' := [.int (i32 1)]) rfl ?_
  exact wp_weak (re_sb_at rfl (re_sb_at rfl (re_sb_at rfl (re_sb_at rfl (re_sb_at rfl (re_sb_at rfl (re_sb_at rfl (re_sb_at rfl (re_sb_nil _))))))))) K
set_option maxRecDepth 20000 in
theorem B582_319 {SC : List Value} {d s : Nat} {h : re_H} {Q : Nat → Value → re_H → Prop} {a0 : Nat} {x1 : Int32} {x2 : Int32} {x3 : Int32} {x5 : Int32} {x6 : Int32} {x10 : Int32} {x11 : Int32}
    (K : wp SC 582 d s 320 [(0, .ref a0), (1, .int x1), (2, .int x2), (3, .int x3), (5, .int x5), (6, .int x6), (10, .int x10), (11, .int x11)] [.int (i32 0)] h Q) : wp SC 582 d s 319 [(0, .ref a0), (1, .int x1), (2, .int x2), (3, .int x3), (5, .int x5), (6, .int x6), (10, .int x10), (11, .int x11)] [] h Q := by
  refine wp_run 1 (pc' := 320) (lv' := [(0, .ref a0), (1, .int x1), (2, .int x2), (3, .int x3), (5, .int x5), (6, .int x6), (10, .int x10), (11, .int x11)]) (st' := [.int (i32 0)]) rfl ?_
  exact wp_weak (re_sb_at rfl (re_sb_at rfl (re_sb_at rfl (re_sb_at rfl (re_sb_at rfl (re_sb_at rfl (re_sb_at rfl (re_sb_at rfl (re_sb_nil _))))))))) K
set_option maxRecDepth 20000 in
theorem B582_320 {SC : List Value} {d s : Nat} {h : re_H} {Q : Nat → Value → re_H → Prop} {a0 : Nat} {x1 : Int32} {x2 : Int32} {x3 : Int32} {x5 : Int32} {x6 : Int32} {x10 : Int32} {x11 : Int32} {xs0 : Int32}
    (K : wp SC 582 d s 173 [(0, .ref a0), (1, .int x1), (2, .int x2), (3, .int x3), (4, .int xs0), (5, .int x5), (6, .int x6), (10, .int x10), (11, .int (x11 + (i32 1)))] [] h Q) : wp SC 582 d s 320 [(0, .ref a0), (1, .int x1), (2, .int x2), (3, .int x3), (5, .int x5), (6, .int x6), (10, .int x10), (11, .int x11)] [.int xs0] h Q := by
  refine wp_run 3 (pc' := 173) (lv' := [(11, .int (x11 + (i32 1))), (4, .int xs0), (0, .ref a0), (1, .int x1), (2, .int x2), (3, .int x3), (5, .int x5), (6, .int x6), (10, .int x10)]) (st' := []) rfl ?_
  exact wp_weak (re_sb_at rfl (re_sb_at rfl (re_sb_at rfl (re_sb_at rfl (re_sb_at rfl (re_sb_at rfl (re_sb_at rfl (re_sb_at rfl (re_sb_at rfl (re_sb_nil _)))))))))) K
set_option maxRecDepth 20000 in
theorem B582_328 {SC : List Value} {d s : Nat} {h : re_H} {Q : Nat → Value → re_H → Prop} {a0 : Nat} {x1 : Int32} {x2 : Int32} {x3 : Int32} {x4 : Int32} {x5 : Int32}
    (K : wp SC 582 d s 6 [(0, .ref a0), (1, .int x1), (2, .int x2), (3, .int x3), (4, .int x4), (5, .int (x5 + (i32 1)))] [] h Q) : wp SC 582 d s 328 [(0, .ref a0), (1, .int x1), (2, .int x2), (3, .int x3), (4, .int x4), (5, .int x5)] [] h Q := by
  refine wp_run 2 (pc' := 6) (lv' := [(5, .int (x5 + (i32 1))), (0, .ref a0), (1, .int x1), (2, .int x2), (3, .int x3), (4, .int x4)]) (st' := []) rfl ?_
  exact wp_weak (re_sb_at rfl (re_sb_at rfl (re_sb_at rfl (re_sb_at rfl (re_sb_at rfl (re_sb_at rfl (re_sb_nil _))))))) K
set_option maxRecDepth 20000 in
theorem B582_334 {SC : List Value} {d s : Nat} {h : re_H} {Q : Nat → Value → re_H → Prop} {x4 : Int32}
    (hz : x4 = 0 ∨ x4 = 1) (K : Q 1 (.int x4) h) : wp SC 582 d s 334 [(4, .int x4)] [] h Q := by
  refine wp_run 1 (pc' := 336) (lv' := [(4, .int x4)]) (st' := [.int x4]) rfl ?_
  exact wp_retz ⟨rfl, rfl⟩ rfl hz K
theorem B583_0 {SC : List Value} {d s : Nat} {h : re_H} {Q : Nat → Value → re_H → Prop} {a0 : Nat} {x1 : Int32} {x2 : Int32}
    {c : Nat} {w : List Value} (eg : re_hg h a0 = some (c, w)) (ec : c = 0) {s1 s2 : Nat} (hs : s1 + s2 ≤ s) (K : wp SC 38 d s1 0 [(0, .ref a0), (1, .int x2)] [] h (wp_ret SC 583 (d + 1) s2 5 [(0, .ref a0), (1, .int x1)] [] Q)) : wp SC 583 (d + 1) s 0 [(0, .ref a0), (1, .int x1), (2, .int x2)] [] h Q := by
  refine wp_run 2 (pc' := 2) (lv' := [(0, .ref a0), (1, .int x1), (2, .int x2)]) (st' := [.int x2, .ref a0]) rfl ?_
  have eA : lv_args 0 (.ref a0 :: [.int x2].reverse) = [(0, .ref a0), (1, .int x2)] := by simp [lv_args, vc_i, vc_l, vc_r, vc_n, vc_a]
  refine wp_callV (ar := [.int x2]) (rest := []) (s1 := s1) (s2 := s2) (d' := d) ⟨rfl, rfl⟩ rfl (Or.inl rfl)  (by simp [re_cat, vc_i, vc_l, vc_r, vc_n, vc_a]) (by rw [show re_cat (.ref a0 :: [.int x2].reverse) = 2 from by simp [re_cat, vc_i, vc_l, vc_r, vc_n, vc_a]]; decide) (by decide) rfl eg ec rfl hs ?_
  rw [eA]
  exact wp_mono K (fun k v h' z => wp_ret_weak (re_sb_at rfl (re_sb_at rfl (re_sb_nil _))) z)
theorem B583_5 {SC : List Value} {d s : Nat} {h : re_H} {Q : Nat → Value → re_H → Prop} {a0 : Nat} {x1 : Int32} {xs0 : Int32}
    (K : wp SC 583 d s 12 [(0, .ref a0), (1, .int x1), (3, .int xs0), (4, .int (i32 1)), (5, .int (i32 0))] [] h Q) : wp SC 583 d s 5 [(0, .ref a0), (1, .int x1)] [.int xs0] h Q := by
  refine wp_run 5 (pc' := 12) (lv' := [(5, .int (i32 0)), (4, .int (i32 1)), (3, .int xs0), (0, .ref a0), (1, .int x1)]) (st' := []) rfl ?_
  exact wp_weak (re_sb_at rfl (re_sb_at rfl (re_sb_at rfl (re_sb_at rfl (re_sb_at rfl (re_sb_nil _)))))) K
theorem B583_12 {SC : List Value} {d s : Nat} {h : re_H} {Q : Nat → Value → re_H → Prop} {a0 : Nat} {x1 : Int32} {x3 : Int32} {x4 : Int32} {x5 : Int32}
    (K1 : ¬ x5 < ((i32 6) * x1) → wp SC 583 d s 69 [(4, .int x4)] [] h Q) (K2 : x5 < ((i32 6) * x1) → wp SC 583 d s 21 [(0, .ref a0), (1, .int x1), (3, .int x3), (4, .int x4), (5, .int x5)] [] h Q) : wp SC 583 d s 12 [(0, .ref a0), (1, .int x1), (3, .int x3), (4, .int x4), (5, .int x5)] [] h Q := by
  refine wp_run 1 (pc' := 14) (lv' := [(0, .ref a0), (1, .int x1), (3, .int x3), (4, .int x4), (5, .int x5)]) (st' := [.int x5]) rfl ?_
  refine wp_bi (x := (i32 6)) ⟨rfl, rfl⟩ (by decide) ?_
  refine wp_run 2 (pc' := 18) (lv' := [(0, .ref a0), (1, .int x1), (3, .int x3), (4, .int x4), (5, .int x5)]) (st' := [.int ((i32 6) * x1), .int x5]) rfl ?_
  exact wp_cmp ⟨rfl, rfl⟩ rfl (fun hc => wp_weak (re_sb_at rfl (re_sb_nil _)) (K1 (ic1_ge hc))) (fun hc => wp_weak (re_sb_at rfl (re_sb_at rfl (re_sb_at rfl (re_sb_at rfl (re_sb_at rfl (re_sb_nil _)))))) (K2 (ic0_ge hc)))
theorem B583_21 {SC : List Value} {d s : Nat} {h : re_H} {Q : Nat → Value → re_H → Prop} {a0 : Nat} {x1 : Int32} {x3 : Int32} {x4 : Int32} {x5 : Int32}
    (K1 : x4 = 0 → wp SC 583 d s 69 [(4, .int x4)] [] h Q) (K2 : ¬ x4 = 0 → wp SC 583 d s 26 [(0, .ref a0), (1, .int x1), (3, .int x3), (5, .int x5)] [] h Q) : wp SC 583 d s 21 [(0, .ref a0), (1, .int x1), (3, .int x3), (4, .int x4), (5, .int x5)] [] h Q := by
  refine wp_run 1 (pc' := 23) (lv' := [(0, .ref a0), (1, .int x1), (3, .int x3), (4, .int x4), (5, .int x5)]) (st' := [.int x4]) rfl ?_
  exact wp_if ⟨rfl, rfl⟩ rfl (fun hc => wp_weak (re_sb_at rfl (re_sb_nil _)) (K1 (ic1_eq hc))) (fun hc => wp_weak (re_sb_at rfl (re_sb_at rfl (re_sb_at rfl (re_sb_at rfl (re_sb_nil _))))) (K2 (ic0_eq hc)))
theorem B583_26 {SC : List Value} {d s : Nat} {h : re_H} {Q : Nat → Value → re_H → Prop} {a0 : Nat} {x1 : Int32} {x3 : Int32} {x5 : Int32}
    (K1 : ((x3 >>> ((x5 / (i32 6)) &&& 31)) &&& (i32 1)) = 0 → wp SC 583 d s 56 [(0, .ref a0), (1, .int x1), (3, .int x3), (5, .int x5)] [] h Q) (K2 : ¬ ((x3 >>> ((x5 / (i32 6)) &&& 31)) &&& (i32 1)) = 0 → wp SC 583 d s 38 [(0, .ref a0), (1, .int x1), (3, .int x3), (5, .int x5)] [] h Q) : wp SC 583 d s 26 [(0, .ref a0), (1, .int x1), (3, .int x3), (5, .int x5)] [] h Q := by
  refine wp_run 2 (pc' := 29) (lv' := [(0, .ref a0), (1, .int x1), (3, .int x3), (5, .int x5)]) (st' := [.int x5, .int x3]) rfl ?_
  refine wp_bi (x := (i32 6)) ⟨rfl, rfl⟩ (by decide) ?_
  refine wp_pure (pc' := 32) (lv' := [(0, .ref a0), (1, .int x1), (3, .int x3), (5, .int x5)]) (st' := [.int (x5 / (i32 6)), .int x3]) ⟨rfl, rfl⟩ (by simp only [re_pure, if_neg (show ¬ (i32 6) = 0 from by decide)]) ?_
  refine wp_run 3 (pc' := 35) (lv' := [(0, .ref a0), (1, .int x1), (3, .int x3), (5, .int x5)]) (st' := [.int ((x3 >>> ((x5 / (i32 6)) &&& 31)) &&& (i32 1))]) rfl ?_
  exact wp_if ⟨rfl, rfl⟩ rfl (fun hc => wp_weak (re_sb_at rfl (re_sb_at rfl (re_sb_at rfl (re_sb_at rfl (re_sb_nil _))))) (K1 (ic1_eq hc))) (fun hc => wp_weak (re_sb_at rfl (re_sb_at rfl (re_sb_at rfl (re_sb_at rfl (re_sb_nil _))))) (K2 (ic0_eq hc)))
theorem B583_38 {SC : List Value} {d s : Nat} {h : re_H} {Q : Nat → Value → re_H → Prop} {a0 : Nat} {x1 : Int32} {x3 : Int32} {x5 : Int32}
    {c : Nat} {w : List Value} (eg : re_hg h a0 = some (c, w)) (ec : c = 0) {s1 s2 : Nat} (hs : s1 + s2 ≤ s) (K : wp SC 33 d s1 0 [(0, .ref a0), (1, .int (x5 / (i32 6))), (2, .int (x5 - x5 / (i32 6) * (i32 6)))] [] h (wp_ret SC 583 (d + 1) s2 52 [(0, .ref a0), (1, .int x1), (3, .int x3), (5, .int x5)] [] Q)) : wp SC 583 (d + 1) s 38 [(0, .ref a0), (1, .int x1), (3, .int x3), (5, .int x5)] [] h Q := by
  refine wp_run 2 (pc' := 41) (lv' := [(0, .ref a0), (1, .int x1), (3, .int x3), (5, .int x5)]) (st' := [.int x5, .ref a0]) rfl ?_
  refine wp_bi (x := (i32 6)) ⟨rfl, rfl⟩ (by decide) ?_
  refine wp_pure (pc' := 44) (lv' := [(0, .ref a0), (1, .int x1), (3, .int x3), (5, .int x5)]) (st' := [.int (x5 / (i32 6)), .ref a0]) ⟨rfl, rfl⟩ (by simp only [re_pure, if_neg (show ¬ (i32 6) = 0 from by decide)]) ?_
  refine wp_run 1 (pc' := 46) (lv' := [(0, .ref a0), (1, .int x1), (3, .int x3), (5, .int x5)]) (st' := [.int x5, .int (x5 / (i32 6)), .ref a0]) rfl ?_
  refine wp_bi (x := (i32 6)) ⟨rfl, rfl⟩ (by decide) ?_
  refine wp_pure (pc' := 49) (lv' := [(0, .ref a0), (1, .int x1), (3, .int x3), (5, .int x5)]) (st' := [.int (x5 - x5 / (i32 6) * (i32 6)), .int (x5 / (i32 6)), .ref a0]) ⟨rfl, rfl⟩ (by simp only [re_pure, if_neg (show ¬ (i32 6) = 0 from by decide)]) ?_
  have eA : lv_args 0 (.ref a0 :: [.int (x5 - x5 / (i32 6) * (i32 6)), .int (x5 / (i32 6))].reverse) = [(0, .ref a0), (1, .int (x5 / (i32 6))), (2, .int (x5 - x5 / (i32 6) * (i32 6)))] := by simp [lv_args, vc_i, vc_l, vc_r, vc_n, vc_a]
  refine wp_callV (ar := [.int (x5 - x5 / (i32 6) * (i32 6)), .int (x5 / (i32 6))]) (rest := []) (s1 := s1) (s2 := s2) (d' := d) ⟨rfl, rfl⟩ rfl (Or.inl rfl)  (by simp [re_cat, vc_i, vc_l, vc_r, vc_n, vc_a]) (by rw [show re_cat (.ref a0 :: [.int (x5 - x5 / (i32 6) * (i32 6)), .int (x5 / (i32 6))].reverse) = 3 from by simp [re_cat, vc_i, vc_l, vc_r, vc_n, vc_a]]; decide) (by decide) rfl eg ec rfl hs ?_
  rw [eA]
  exact wp_mono K (fun k v h' z => wp_ret_weak (re_sb_at rfl (re_sb_at rfl (re_sb_at rfl (re_sb_at rfl (re_sb_nil _))))) z)
theorem B583_52 {SC : List Value} {d s : Nat} {h : re_H} {Q : Nat → Value → re_H → Prop} {a0 : Nat} {x1 : Int32} {x3 : Int32} {x5 : Int32} {xs0 : Int32}
    (K1 : ¬ xs0 < (i32 2) → wp SC 583 d s 60 [(0, .ref a0), (1, .int x1), (3, .int x3), (5, .int x5)] [] h Q) (K2 : xs0 < (i32 2) → wp SC 583 d s 56 [(0, .ref a0), (1, .int x1), (3, .int x3), (5, .int x5)] [] h Q) : wp SC 583 d s 52 [(0, .ref a0), (1, .int x1), (3, .int x3), (5, .int x5)] [.int xs0] h Q := by
  refine wp_run 1 (pc' := 53) (lv' := [(0, .ref a0), (1, .int x1), (3, .int x3), (5, .int x5)]) (st' := [.int (i32 2), .int xs0]) rfl ?_
  exact wp_cmp ⟨rfl, rfl⟩ rfl (fun hc => wp_weak (re_sb_at rfl (re_sb_at rfl (re_sb_at rfl (re_sb_at rfl (re_sb_nil _))))) (K1 (ic1_ge hc))) (fun hc => wp_weak (re_sb_at rfl (re_sb_at rfl (re_sb_at rfl (re_sb_at rfl (re_sb_nil _))))) (K2 (ic0_ge hc)))
theorem B583_56 {SC : List Value} {d s : Nat} {h : re_H} {Q : Nat → Value → re_H → Prop} {a0 : Nat} {x1 : Int32} {x3 : Int32} {x5 : Int32}
    (K : wp SC 583 d s 61 [(0, .ref a0), (1, .int x1), (3, .int x3), (5, .int x5)] [.int (i32 1)] h Q) : wp SC 583 d s 56 [(0, .ref a0), (1, .int x1), (3, .int x3), (5, .int x5)] [] h Q := by
  refine wp_run 2 (pc' := 61) (lv' := [(0, .ref a0), (1, .int x1), (3, .int x3), (5, .int x5)]) (st' := [.int (i32 1)]) rfl ?_
  exact wp_weak (re_sb_at rfl (re_sb_at rfl (re_sb_at rfl (re_sb_at rfl (re_sb_nil _))))) K
theorem B583_60 {SC : List Value} {d s : Nat} {h : re_H} {Q : Nat → Value → re_H → Prop} {a0 : Nat} {x1 : Int32} {x3 : Int32} {x5 : Int32}
    (K : wp SC 583 d s 61 [(0, .ref a0), (1, .int x1), (3, .int x3), (5, .int x5)] [.int (i32 0)] h Q) : wp SC 583 d s 60 [(0, .ref a0), (1, .int x1), (3, .int x3), (5, .int x5)] [] h Q := by
  refine wp_run 1 (pc' := 61) (lv' := [(0, .ref a0), (1, .int x1), (3, .int x3), (5, .int x5)]) (st' := [.int (i32 0)]) rfl ?_
  exact wp_weak (re_sb_at rfl (re_sb_at rfl (re_sb_at rfl (re_sb_at rfl (re_sb_nil _))))) K
theorem B583_61 {SC : List Value} {d s : Nat} {h : re_H} {Q : Nat → Value → re_H → Prop} {a0 : Nat} {x1 : Int32} {x3 : Int32} {x5 : Int32} {xs0 : Int32}
    (K : wp SC 583 d s 12 [(0, .ref a0), (1, .int x1), (3, .int x3), (4, .int xs0), (5, .int (x5 + (i32 1)))] [] h Q) : wp SC 583 d s 61 [(0, .ref a0), (1, .int x1), (3, .int x3), (5, .int x5)] [.int xs0] h Q := by
  refine wp_run 3 (pc' := 12) (lv' := [(5, .int (x5 + (i32 1))), (4, .int xs0), (0, .ref a0), (1, .int x1), (3, .int x3)]) (st' := []) rfl ?_
  exact wp_weak (re_sb_at rfl (re_sb_at rfl (re_sb_at rfl (re_sb_at rfl (re_sb_at rfl (re_sb_nil _)))))) K
theorem B583_69 {SC : List Value} {d s : Nat} {h : re_H} {Q : Nat → Value → re_H → Prop} {x4 : Int32}
    (hz : x4 = 0 ∨ x4 = 1) (K : Q 1 (.int x4) h) : wp SC 583 d s 69 [(4, .int x4)] [] h Q := by
  refine wp_run 1 (pc' := 71) (lv' := [(4, .int x4)]) (st' := [.int x4]) rfl ?_
  exact wp_retz ⟨rfl, rfl⟩ rfl hz K
set_option maxRecDepth 20000 in
theorem B584_0 {SC : List Value} {d s : Nat} {h : re_H} {Q : Nat → Value → re_H → Prop} {a0 : Nat} {a1 : Nat} {a2 : Nat} {x3 : Int32}
    (K : wp SC 577 d 0 0 [(0, .int x3), (1, .int (i32 16))] [] h (wp_ret SC 584 (d + 1) s 6 [(0, .ref a0), (1, .ref a1), (2, .ref a2), (3, .int x3)] [] Q)) : wp SC 584 (d + 1) s 0 [(0, .ref a0), (1, .ref a1), (2, .ref a2), (3, .int x3)] [] h Q := by
  refine wp_run 1 (pc' := 1) (lv' := [(0, .ref a0), (1, .ref a1), (2, .ref a2), (3, .int x3)]) (st' := [.int x3]) rfl ?_
  refine wp_bi (x := (i32 16)) ⟨rfl, rfl⟩ (by decide) ?_
  have eA : lv_args 0 ([.int (i32 16), .int x3].reverse) = [(0, .int x3), (1, .int (i32 16))] := by simp [lv_args, vc_i, vc_l, vc_r, vc_n, vc_a]
  refine wp_callS (ar := [.int (i32 16), .int x3]) (rest := []) (s1 := 0) (s2 := s) (d' := d) ⟨rfl, rfl⟩ rfl (Or.inl rfl) rfl (by simp [re_cat, vc_i, vc_l, vc_r, vc_n, vc_a]) (by rw [show re_cat ([.int (i32 16), .int x3].reverse) = 2 from by simp [re_cat, vc_i, vc_l, vc_r, vc_n, vc_a]]; decide) (by decide) rfl rfl (Nat.le_of_eq (Nat.zero_add s)) ?_
  rw [eA]
  exact wp_mono K (fun k v h' z => wp_ret_weak (re_sb_at rfl (re_sb_at rfl (re_sb_at rfl (re_sb_at rfl (re_sb_nil _))))) z)
set_option maxRecDepth 20000 in
theorem B584_6 {SC : List Value} {d s : Nat} {h : re_H} {Q : Nat → Value → re_H → Prop} {a0 : Nat} {a1 : Nat} {a2 : Nat} {x3 : Int32} {xs0 : Int32}
    (K1 : ¬ xs0 < (i32 8) → wp SC 584 d s 141 [(0, .ref a0), (1, .ref a1), (2, .ref a2), (3, .int x3)] [] h Q) (K2 : xs0 < (i32 8) → wp SC 584 d s 15 [(0, .ref a0), (1, .ref a1), (2, .ref a2), (3, .int x3), (4, .int xs0)] [] h Q) : wp SC 584 d s 6 [(0, .ref a0), (1, .ref a1), (2, .ref a2), (3, .int x3)] [.int xs0] h Q := by
  refine wp_run 2 (pc' := 10) (lv' := [(4, .int xs0), (0, .ref a0), (1, .ref a1), (2, .ref a2), (3, .int x3)]) (st' := [.int xs0]) rfl ?_
  refine wp_bi (x := (i32 8)) ⟨rfl, rfl⟩ (by decide) ?_
  exact wp_cmp ⟨rfl, rfl⟩ rfl (fun hc => wp_weak (re_sb_at rfl (re_sb_at rfl (re_sb_at rfl (re_sb_at rfl (re_sb_nil _))))) (K1 (ic1_ge hc))) (fun hc => wp_weak (re_sb_at rfl (re_sb_at rfl (re_sb_at rfl (re_sb_at rfl (re_sb_at rfl (re_sb_nil _)))))) (K2 (ic0_ge hc)))
set_option maxRecDepth 20000 in
theorem B584_15 {SC : List Value} {d s : Nat} {h : re_H} {Q : Nat → Value → re_H → Prop} {a0 : Nat} {a1 : Nat} {a2 : Nat} {x3 : Int32} {x4 : Int32}
    (K1 : ¬ x4 < (i32 4) → wp SC 584 d s 41 [(0, .ref a0), (1, .ref a1), (2, .ref a2), (3, .int x3), (4, .int x4)] [] h Q) (K2 : x4 < (i32 4) → wp SC 584 d s 21 [(0, .ref a0), (1, .ref a1), (2, .ref a2), (3, .int x3)] [] h Q) : wp SC 584 d s 15 [(0, .ref a0), (1, .ref a1), (2, .ref a2), (3, .int x3), (4, .int x4)] [] h Q := by
  refine wp_run 2 (pc' := 18) (lv' := [(0, .ref a0), (1, .ref a1), (2, .ref a2), (3, .int x3), (4, .int x4)]) (st' := [.int (i32 4), .int x4]) rfl ?_
  exact wp_cmp ⟨rfl, rfl⟩ rfl (fun hc => wp_weak (re_sb_at rfl (re_sb_at rfl (re_sb_at rfl (re_sb_at rfl (re_sb_at rfl (re_sb_nil _)))))) (K1 (ic1_ge hc))) (fun hc => wp_weak (re_sb_at rfl (re_sb_at rfl (re_sb_at rfl (re_sb_at rfl (re_sb_nil _))))) (K2 (ic0_ge hc)))
set_option maxRecDepth 20000 in
theorem B584_21 {SC : List Value} {d s : Nat} {h : re_H} {Q : Nat → Value → re_H → Prop} {a0 : Nat} {a1 : Nat} {a2 : Nat} {x3 : Int32}
    (K : wp SC 577 d 0 0 [(0, .int (x3 >>> ((i32 4) &&& 31))), (1, .int (i32 9))] [] h (wp_ret SC 584 (d + 1) s 32 [(2, .ref a2)] [.int (i32 0), .ref a1, .ref a0] Q)) : wp SC 584 (d + 1) s 21 [(0, .ref a0), (1, .ref a1), (2, .ref a2), (3, .int x3)] [] h Q := by
  refine wp_run 6 (pc' := 27) (lv' := [(0, .ref a0), (1, .ref a1), (2, .ref a2), (3, .int x3)]) (st' := [.int (x3 >>> ((i32 4) &&& 31)), .int (i32 0), .ref a1, .ref a0]) rfl ?_
  refine wp_bi (x := (i32 9)) ⟨rfl, rfl⟩ (by decide) ?_
  have eA : lv_args 0 ([.int (i32 9), .int (x3 >>> ((i32 4) &&& 31))].reverse) = [(0, .int (x3 >>> ((i32 4) &&& 31))), (1, .int (i32 9))] := by simp [lv_args, vc_i, vc_l, vc_r, vc_n, vc_a]
  refine wp_callS (ar := [.int (i32 9), .int (x3 >>> ((i32 4) &&& 31))]) (rest := [.int (i32 0), .ref a1, .ref a0]) (s1 := 0) (s2 := s) (d' := d) ⟨rfl, rfl⟩ rfl (Or.inl rfl) rfl (by simp [re_cat, vc_i, vc_l, vc_r, vc_n, vc_a]) (by rw [show re_cat ([.int (i32 9), .int (x3 >>> ((i32 4) &&& 31))].reverse) = 2 from by simp [re_cat, vc_i, vc_l, vc_r, vc_n, vc_a]]; decide) (by decide) rfl rfl (Nat.le_of_eq (Nat.zero_add s)) ?_
  rw [eA]
  exact wp_mono K (fun k v h' z => wp_ret_weak (re_sb_at rfl (re_sb_nil _)) z)
set_option maxRecDepth 20000 in
theorem B584_32 {SC : List Value} {d s : Nat} {h : re_H} {Q : Nat → Value → re_H → Prop} {a2 : Nat} {xs0 : Int32} {xs1 : Int32} {as2 : Nat} {as3 : Nat}
    (K : wp SC 581 d 0 0 [(0, .ref as3), (1, .ref as2), (2, .int xs1), (3, .int (xs0 - (i32 2))), (4, .int (i32 0))] [] h (wp_ret SC 584 (d + 1) s 38 [(2, .ref a2)] [] Q)) : wp SC 584 (d + 1) s 32 [(2, .ref a2)] [.int xs0, .int xs1, .ref as2, .ref as3] h Q := by
  refine wp_run 3 (pc' := 35) (lv' := [(2, .ref a2)]) (st' := [.int (i32 0), .int (xs0 - (i32 2)), .int xs1, .ref as2, .ref as3]) rfl ?_
  have eA : lv_args 0 ([.int (i32 0), .int (xs0 - (i32 2)), .int xs1, .ref as2, .ref as3].reverse) = [(0, .ref as3), (1, .ref as2), (2, .int xs1), (3, .int (xs0 - (i32 2))), (4, .int (i32 0))] := by simp [lv_args, vc_i, vc_l, vc_r, vc_n, vc_a]
  refine wp_callS (ar := [.int (i32 0), .int (xs0 - (i32 2)), .int xs1, .ref as2, .ref as3]) (rest := []) (s1 := 0) (s2 := s) (d' := d) ⟨rfl, rfl⟩ rfl (Or.inl rfl) rfl (by simp [re_cat, vc_i, vc_l, vc_r, vc_n, vc_a]) (by rw [show re_cat ([.int (i32 0), .int (xs0 - (i32 2)), .int xs1, .ref as2, .ref as3].reverse) = 5 from by simp [re_cat, vc_i, vc_l, vc_r, vc_n, vc_a]]; decide) (by decide) rfl rfl (Nat.le_of_eq (Nat.zero_add s)) ?_
  rw [eA]
  exact wp_mono K (fun k v h' z => wp_ret_weak (re_sb_at rfl (re_sb_nil _)) z)
set_option maxRecDepth 20000 in
theorem B584_38 {SC : List Value} {d s : Nat} {h : re_H} {Q : Nat → Value → re_H → Prop} {a2 : Nat} {ls0 : Int64}
    (K : wp SC 584 d s 80 [(2, .ref a2)] [.long ls0] h Q) : wp SC 584 d s 38 [(2, .ref a2)] [.long ls0] h Q := by
  refine wp_run 1 (pc' := 80) (lv' := [(2, .ref a2)]) (st' := [.long ls0]) rfl ?_
  exact wp_weak (re_sb_at rfl (re_sb_nil _)) K
set_option maxRecDepth 20000 in
theorem B584_41 {SC : List Value} {d s : Nat} {h : re_H} {Q : Nat → Value → re_H → Prop} {a0 : Nat} {a1 : Nat} {a2 : Nat} {x3 : Int32} {x4 : Int32}
    (K1 : ¬ x4 < (i32 7) → wp SC 584 d s 66 [(0, .ref a0), (1, .ref a1), (2, .ref a2), (3, .int x3)] [] h Q) (K2 : x4 < (i32 7) → wp SC 584 d s 48 [(0, .ref a0), (1, .ref a1), (2, .ref a2), (3, .int x3)] [] h Q) : wp SC 584 d s 41 [(0, .ref a0), (1, .ref a1), (2, .ref a2), (3, .int x3), (4, .int x4)] [] h Q := by
  refine wp_run 1 (pc' := 43) (lv' := [(0, .ref a0), (1, .ref a1), (2, .ref a2), (3, .int x3), (4, .int x4)]) (st' := [.int x4]) rfl ?_
  refine wp_bi (x := (i32 7)) ⟨rfl, rfl⟩ (by decide) ?_
  exact wp_cmp ⟨rfl, rfl⟩ rfl (fun hc => wp_weak (re_sb_at rfl (re_sb_at rfl (re_sb_at rfl (re_sb_at rfl (re_sb_nil _))))) (K1 (ic1_ge hc))) (fun hc => wp_weak (re_sb_at rfl (re_sb_at rfl (re_sb_at rfl (re_sb_at rfl (re_sb_nil _))))) (K2 (ic0_ge hc)))
set_option maxRecDepth 20000 in
theorem B584_48 {SC : List Value} {d s : Nat} {h : re_H} {Q : Nat → Value → re_H → Prop} {a0 : Nat} {a1 : Nat} {a2 : Nat} {x3 : Int32}
    (K : wp SC 577 d 0 0 [(0, .int (x3 >>> ((i32 4) &&& 31))), (1, .int (i32 6))] [] h (wp_ret SC 584 (d + 1) s 59 [(2, .ref a2)] [.int (i32 1), .ref a1, .ref a0] Q)) : wp SC 584 (d + 1) s 48 [(0, .ref a0), (1, .ref a1), (2, .ref a2), (3, .int x3)] [] h Q := by
  refine wp_run 6 (pc' := 54) (lv' := [(0, .ref a0), (1, .ref a1), (2, .ref a2), (3, .int x3)]) (st' := [.int (x3 >>> ((i32 4) &&& 31)), .int (i32 1), .ref a1, .ref a0]) rfl ?_
  refine wp_bi (x := (i32 6)) ⟨rfl, rfl⟩ (by decide) ?_
  have eA : lv_args 0 ([.int (i32 6), .int (x3 >>> ((i32 4) &&& 31))].reverse) = [(0, .int (x3 >>> ((i32 4) &&& 31))), (1, .int (i32 6))] := by simp [lv_args, vc_i, vc_l, vc_r, vc_n, vc_a]
  refine wp_callS (ar := [.int (i32 6), .int (x3 >>> ((i32 4) &&& 31))]) (rest := [.int (i32 1), .ref a1, .ref a0]) (s1 := 0) (s2 := s) (d' := d) ⟨rfl, rfl⟩ rfl (Or.inl rfl) rfl (by simp [re_cat, vc_i, vc_l, vc_r, vc_n, vc_a]) (by rw [show re_cat ([.int (i32 6), .int (x3 >>> ((i32 4) &&& 31))].reverse) = 2 from by simp [re_cat, vc_i, vc_l, vc_r, vc_n, vc_a]]; decide) (by decide) rfl rfl (Nat.le_of_eq (Nat.zero_add s)) ?_
  rw [eA]
  exact wp_mono K (fun k v h' z => wp_ret_weak (re_sb_at rfl (re_sb_nil _)) z)
set_option maxRecDepth 20000 in
theorem B584_59 {SC : List Value} {d s : Nat} {h : re_H} {Q : Nat → Value → re_H → Prop} {a2 : Nat} {xs0 : Int32} {xs1 : Int32} {as2 : Nat} {as3 : Nat}
    (K : wp SC 581 d 0 0 [(0, .ref as3), (1, .ref as2), (2, .int xs1), (3, .int xs0), (4, .int (i32 0))] [] h (wp_ret SC 584 (d + 1) s 63 [(2, .ref a2)] [] Q)) : wp SC 584 (d + 1) s 59 [(2, .ref a2)] [.int xs0, .int xs1, .ref as2, .ref as3] h Q := by
  refine wp_run 1 (pc' := 60) (lv' := [(2, .ref a2)]) (st' := [.int (i32 0), .int xs0, .int xs1, .ref as2, .ref as3]) rfl ?_
  have eA : lv_args 0 ([.int (i32 0), .int xs0, .int xs1, .ref as2, .ref as3].reverse) = [(0, .ref as3), (1, .ref as2), (2, .int xs1), (3, .int xs0), (4, .int (i32 0))] := by simp [lv_args, vc_i, vc_l, vc_r, vc_n, vc_a]
  refine wp_callS (ar := [.int (i32 0), .int xs0, .int xs1, .ref as2, .ref as3]) (rest := []) (s1 := 0) (s2 := s) (d' := d) ⟨rfl, rfl⟩ rfl (Or.inl rfl) rfl (by simp [re_cat, vc_i, vc_l, vc_r, vc_n, vc_a]) (by rw [show re_cat ([.int (i32 0), .int xs0, .int xs1, .ref as2, .ref as3].reverse) = 5 from by simp [re_cat, vc_i, vc_l, vc_r, vc_n, vc_a]]; decide) (by decide) rfl rfl (Nat.le_of_eq (Nat.zero_add s)) ?_
  rw [eA]
  exact wp_mono K (fun k v h' z => wp_ret_weak (re_sb_at rfl (re_sb_nil _)) z)
set_option maxRecDepth 20000 in
theorem B584_63 {SC : List Value} {d s : Nat} {h : re_H} {Q : Nat → Value → re_H → Prop} {a2 : Nat} {ls0 : Int64}
    (K : wp SC 584 d s 80 [(2, .ref a2)] [.long ls0] h Q) : wp SC 584 d s 63 [(2, .ref a2)] [.long ls0] h Q := by
  refine wp_run 1 (pc' := 80) (lv' := [(2, .ref a2)]) (st' := [.long ls0]) rfl ?_
  exact wp_weak (re_sb_at rfl (re_sb_nil _)) K
set_option maxRecDepth 20000 in
theorem B584_66 {SC : List Value} {d s : Nat} {h : re_H} {Q : Nat → Value → re_H → Prop} {a0 : Nat} {a1 : Nat} {a2 : Nat} {x3 : Int32}
    (K : wp SC 577 d 0 0 [(0, .int (x3 >>> ((i32 4) &&& 31))), (1, .int (i32 4))] [] h (wp_ret SC 584 (d + 1) s 76 [(2, .ref a2)] [.int (i32 2), .ref a1, .ref a0] Q)) : wp SC 584 (d + 1) s 66 [(0, .ref a0), (1, .ref a1), (2, .ref a2), (3, .int x3)] [] h Q := by
  refine wp_run 7 (pc' := 73) (lv' := [(0, .ref a0), (1, .ref a1), (2, .ref a2), (3, .int x3)]) (st' := [.int (i32 4), .int (x3 >>> ((i32 4) &&& 31)), .int (i32 2), .ref a1, .ref a0]) rfl ?_
  have eA : lv_args 0 ([.int (i32 4), .int (x3 >>> ((i32 4) &&& 31))].reverse) = [(0, .int (x3 >>> ((i32 4) &&& 31))), (1, .int (i32 4))] := by simp [lv_args, vc_i, vc_l, vc_r, vc_n, vc_a]
  refine wp_callS (ar := [.int (i32 4), .int (x3 >>> ((i32 4) &&& 31))]) (rest := [.int (i32 2), .ref a1, .ref a0]) (s1 := 0) (s2 := s) (d' := d) ⟨rfl, rfl⟩ rfl (Or.inl rfl) rfl (by simp [re_cat, vc_i, vc_l, vc_r, vc_n, vc_a]) (by rw [show re_cat ([.int (i32 4), .int (x3 >>> ((i32 4) &&& 31))].reverse) = 2 from by simp [re_cat, vc_i, vc_l, vc_r, vc_n, vc_a]]; decide) (by decide) rfl rfl (Nat.le_of_eq (Nat.zero_add s)) ?_
  rw [eA]
  exact wp_mono K (fun k v h' z => wp_ret_weak (re_sb_at rfl (re_sb_nil _)) z)
set_option maxRecDepth 20000 in
theorem B584_76 {SC : List Value} {d s : Nat} {h : re_H} {Q : Nat → Value → re_H → Prop} {a2 : Nat} {xs0 : Int32} {xs1 : Int32} {as2 : Nat} {as3 : Nat}
    (K : wp SC 581 d 0 0 [(0, .ref as3), (1, .ref as2), (2, .int xs1), (3, .int xs0), (4, .int (i32 0))] [] h (wp_ret SC 584 (d + 1) s 80 [(2, .ref a2)] [] Q)) : wp SC 584 (d + 1) s 76 [(2, .ref a2)] [.int xs0, .int xs1, .ref as2, .ref as3] h Q := by
  refine wp_run 1 (pc' := 77) (lv' := [(2, .ref a2)]) (st' := [.int (i32 0), .int xs0, .int xs1, .ref as2, .ref as3]) rfl ?_
  have eA : lv_args 0 ([.int (i32 0), .int xs0, .int xs1, .ref as2, .ref as3].reverse) = [(0, .ref as3), (1, .ref as2), (2, .int xs1), (3, .int xs0), (4, .int (i32 0))] := by simp [lv_args, vc_i, vc_l, vc_r, vc_n, vc_a]
  refine wp_callS (ar := [.int (i32 0), .int xs0, .int xs1, .ref as2, .ref as3]) (rest := []) (s1 := 0) (s2 := s) (d' := d) ⟨rfl, rfl⟩ rfl (Or.inl rfl) rfl (by simp [re_cat, vc_i, vc_l, vc_r, vc_n, vc_a]) (by rw [show re_cat ([.int (i32 0), .int xs0, .int xs1, .ref as2, .ref as3].reverse) = 5 from by simp [re_cat, vc_i, vc_l, vc_r, vc_n, vc_a]]; decide) (by decide) rfl rfl (Nat.le_of_eq (Nat.zero_add s)) ?_
  rw [eA]
  exact wp_mono K (fun k v h' z => wp_ret_weak (re_sb_at rfl (re_sb_nil _)) z)
set_option maxRecDepth 20000 in
theorem B584_80 {SC : List Value} {d s : Nat} {h : re_H} {Q : Nat → Value → re_H → Prop} {a2 : Nat} {ls0 : Int64}
    {xe1 : Int32} (e2 : nb_ar h a2 100 (i32 0) (.int xe1)) (K1 : ¬ (0) < ls0 → wp SC 584 d s 97 [(2, .ref a2), (5, .long ls0)] [.int xe1, .int (i32 0), .ref a2] h Q) (K2 : (0) < ls0 → wp SC 584 d s 93 [(2, .ref a2), (5, .long ls0)] [.int xe1, .int (i32 0), .ref a2] h Q) : wp SC 584 d s 80 [(2, .ref a2)] [.long ls0] h Q := by
  refine wp_run 4 (pc' := 85) (lv' := [(5, .long ls0), (2, .ref a2)]) (st' := [.int (i32 0), .ref a2, .int (i32 0), .ref a2]) rfl ?_
  obtain ⟨w2, i2, e2a, e2x, e2i, e2v⟩ := e2
  refine wp_ial ⟨rfl, rfl⟩ e2a rfl e2x e2i e2v ?_
  refine wp_run 3 (pc' := 90) (lv' := [(5, .long ls0), (2, .ref a2)]) (st' := [.int (lg_cmp ls0 (0)), .int xe1, .int (i32 0), .ref a2]) rfl ?_
  exact wp_if ⟨rfl, rfl⟩ rfl (fun hc => wp_weak (re_sb_at rfl (re_sb_at rfl (re_sb_nil _))) (K1 (lc1_le hc))) (fun hc => wp_weak (re_sb_at rfl (re_sb_at rfl (re_sb_nil _))) (K2 (lc0_le hc)))
set_option maxRecDepth 20000 in
theorem B584_93 {SC : List Value} {d s : Nat} {h : re_H} {Q : Nat → Value → re_H → Prop} {a2 : Nat} {l5 : Int64} {xs0 : Int32} {xs1 : Int32} {as2 : Nat}
    (K : wp SC 584 d s 98 [(2, .ref a2), (5, .long l5)] [.int (i32 1), .int xs0, .int xs1, .ref as2] h Q) : wp SC 584 d s 93 [(2, .ref a2), (5, .long l5)] [.int xs0, .int xs1, .ref as2] h Q := by
  refine wp_run 2 (pc' := 98) (lv' := [(2, .ref a2), (5, .long l5)]) (st' := [.int (i32 1), .int xs0, .int xs1, .ref as2]) rfl ?_
  exact wp_weak (re_sb_at rfl (re_sb_at rfl (re_sb_nil _))) K
set_option maxRecDepth 20000 in
theorem B584_97 {SC : List Value} {d s : Nat} {h : re_H} {Q : Nat → Value → re_H → Prop} {a2 : Nat} {l5 : Int64} {xs0 : Int32} {xs1 : Int32} {as2 : Nat}
    (K : wp SC 584 d s 98 [(2, .ref a2), (5, .long l5)] [.int (i32 0), .int xs0, .int xs1, .ref as2] h Q) : wp SC 584 d s 97 [(2, .ref a2), (5, .long l5)] [.int xs0, .int xs1, .ref as2] h Q := by
  refine wp_run 1 (pc' := 98) (lv' := [(2, .ref a2), (5, .long l5)]) (st' := [.int (i32 0), .int xs0, .int xs1, .ref as2]) rfl ?_
  exact wp_weak (re_sb_at rfl (re_sb_at rfl (re_sb_nil _))) K
set_option maxRecDepth 20000 in
theorem B584_98 {SC : List Value} {d s : Nat} {h : re_H} {Q : Nat → Value → re_H → Prop} {a2 : Nat} {l5 : Int64} {xs0 : Int32} {xs1 : Int32} {xs2 : Int32} {as3 : Nat}
    {w : List Value} {i : Nat} (e : re_hg h as3 = some (100, w)) (hx : xs2 = i32 i) (hi : i < 2147483648) (hl : i < w.length) (K : wp SC 584 d s 100 [(2, .ref a2), (5, .long l5)] [] (re_hw h as3 (100, w.set i (.int (xs1 + xs0)))) Q) : wp SC 584 d s 98 [(2, .ref a2), (5, .long l5)] [.int xs0, .int xs1, .int xs2, .ref as3] h Q := by
  refine wp_run 1 (pc' := 99) (lv' := [(2, .ref a2), (5, .long l5)]) (st' := [.int (xs1 + xs0), .int xs2, .ref as3]) rfl ?_
  exact wp_ias ⟨rfl, rfl⟩ e rfl hx hi hl (wp_weak (re_sb_at rfl (re_sb_at rfl (re_sb_nil _))) K)
set_option maxRecDepth 20000 in
theorem B584_100 {SC : List Value} {d s : Nat} {h : re_H} {Q : Nat → Value → re_H → Prop} {a2 : Nat} {l5 : Int64}
    (K1 : ¬ l5 = (-2000000003) → wp SC 584 d s 125 [(2, .ref a2), (5, .long l5)] [] h Q) (K2 : l5 = (-2000000003) → wp SC 584 d s 109 [(2, .ref a2)] [] h Q) : wp SC 584 d s 100 [(2, .ref a2), (5, .long l5)] [] h Q := by
  refine wp_run 1 (pc' := 102) (lv' := [(2, .ref a2), (5, .long l5)]) (st' := [.long l5]) rfl ?_
  refine wp_cst (pc' := 105) (v := .long (-2000000003)) ⟨rfl, rfl⟩ rfl rfl rfl rfl rfl ?_
  refine wp_run 1 (pc' := 106) (lv' := [(2, .ref a2), (5, .long l5)]) (st' := [.int (lg_cmp l5 (-2000000003))]) rfl ?_
  exact wp_if ⟨rfl, rfl⟩ rfl (fun hc => wp_weak (re_sb_at rfl (re_sb_at rfl (re_sb_nil _))) (K1 (lc1_ne hc))) (fun hc => wp_weak (re_sb_at rfl (re_sb_nil _)) (K2 (lc0_ne hc)))
set_option maxRecDepth 20000 in
theorem B584_109 {SC : List Value} {d s : Nat} {h : re_H} {Q : Nat → Value → re_H → Prop} {a2 : Nat}
    {xe1 : Int32} (e2 : nb_ar h a2 100 (i32 0) (.int xe1)) (K1 : ¬ xe1 = (i32 20) → wp SC 584 d s 121 [] [] h Q) (K2 : xe1 = (i32 20) → wp SC 584 d s 117 [] [] h Q) : wp SC 584 d s 109 [(2, .ref a2)] [] h Q := by
  refine wp_run 2 (pc' := 111) (lv' := [(2, .ref a2)]) (st' := [.int (i32 0), .ref a2]) rfl ?_
  obtain ⟨w2, i2, e2a, e2x, e2i, e2v⟩ := e2
  refine wp_ial ⟨rfl, rfl⟩ e2a rfl e2x e2i e2v ?_
  refine wp_bi (x := (i32 20)) ⟨rfl, rfl⟩ (by decide) ?_
  exact wp_cmp ⟨rfl, rfl⟩ rfl (fun hc => wp_weak (re_sb_nil _) (K1 (ic1_ne hc))) (fun hc => wp_weak (re_sb_nil _) (K2 (ic0_ne hc)))
set_option maxRecDepth 20000 in
theorem B584_117 {SC : List Value} {d s : Nat} {h : re_H} {Q : Nat → Value → re_H → Prop} 
    (K : wp SC 584 d s 140 [] [.int (i32 1)] h Q) : wp SC 584 d s 117 [] [] h Q := by
  refine wp_run 2 (pc' := 140) (lv' := []) (st' := [.int (i32 1)]) rfl ?_
  exact wp_weak (re_sb_nil _) K
set_option maxRecDepth 20000 in
theorem B584_121 {SC : List Value} {d s : Nat} {h : re_H} {Q : Nat → Value → re_H → Prop} 
    (K : wp SC 584 d s 140 [] [.int (i32 0)] h Q) : wp SC 584 d s 121 [] [] h Q := by
  refine wp_run 2 (pc' := 140) (lv' := []) (st' := [.int (i32 0)]) rfl ?_
  exact wp_weak (re_sb_nil _) K
set_option maxRecDepth 20000 in
theorem B584_125 {SC : List Value} {d s : Nat} {h : re_H} {Q : Nat → Value → re_H → Prop} {a2 : Nat} {l5 : Int64}
    {xe1 : Int32} (e2 : nb_ar h a2 100 (i32 0) (.int xe1)) (K1 : ¬ l5 = xe1.toInt64 → wp SC 584 d s 139 [] [] h Q) (K2 : l5 = xe1.toInt64 → wp SC 584 d s 135 [] [] h Q) : wp SC 584 d s 125 [(2, .ref a2), (5, .long l5)] [] h Q := by
  refine wp_run 3 (pc' := 129) (lv' := [(2, .ref a2), (5, .long l5)]) (st' := [.int (i32 0), .ref a2, .long l5]) rfl ?_
  obtain ⟨w2, i2, e2a, e2x, e2i, e2v⟩ := e2
  refine wp_ial ⟨rfl, rfl⟩ e2a rfl e2x e2i e2v ?_
  refine wp_run 2 (pc' := 132) (lv' := [(2, .ref a2), (5, .long l5)]) (st' := [.int (lg_cmp l5 xe1.toInt64)]) rfl ?_
  exact wp_if ⟨rfl, rfl⟩ rfl (fun hc => wp_weak (re_sb_nil _) (K1 (lc1_ne hc))) (fun hc => wp_weak (re_sb_nil _) (K2 (lc0_ne hc)))
set_option maxRecDepth 20000 in
theorem B584_135 {SC : List Value} {d s : Nat} {h : re_H} {Q : Nat → Value → re_H → Prop} 
    (K : wp SC 584 d s 140 [] [.int (i32 1)] h Q) : wp SC 584 d s 135 [] [] h Q := by
  refine wp_run 2 (pc' := 140) (lv' := []) (st' := [.int (i32 1)]) rfl ?_
  exact wp_weak (re_sb_nil _) K
set_option maxRecDepth 20000 in
theorem B584_139 {SC : List Value} {d s : Nat} {h : re_H} {Q : Nat → Value → re_H → Prop} 
    (K : wp SC 584 d s 140 [] [.int (i32 0)] h Q) : wp SC 584 d s 139 [] [] h Q := by
  refine wp_run 1 (pc' := 140) (lv' := []) (st' := [.int (i32 0)]) rfl ?_
  exact wp_weak (re_sb_nil _) K
set_option maxRecDepth 20000 in
theorem B584_140 {SC : List Value} {d s : Nat} {h : re_H} {Q : Nat → Value → re_H → Prop} {xs0 : Int32}
    (hz : xs0 = 0 ∨ xs0 = 1) (K : Q 1 (.int xs0) h) : wp SC 584 d s 140 [] [.int xs0] h Q := by
  exact wp_retz ⟨rfl, rfl⟩ rfl hz K
set_option maxRecDepth 20000 in
theorem B584_141 {SC : List Value} {d s : Nat} {h : re_H} {Q : Nat → Value → re_H → Prop} {a0 : Nat} {a1 : Nat} {a2 : Nat} {x3 : Int32}
    (K : wp SC 577 d 0 0 [(0, .int (x3 >>> ((i32 4) &&& 31))), (1, .int (i32 6))] [] h (wp_ret SC 584 (d + 1) s 150 [(0, .ref a0), (1, .ref a1), (2, .ref a2), (3, .int x3)] [.int (i32 3)] Q)) : wp SC 584 (d + 1) s 141 [(0, .ref a0), (1, .ref a1), (2, .ref a2), (3, .int x3)] [] h Q := by
  refine wp_run 4 (pc' := 145) (lv' := [(0, .ref a0), (1, .ref a1), (2, .ref a2), (3, .int x3)]) (st' := [.int (x3 >>> ((i32 4) &&& 31)), .int (i32 3)]) rfl ?_
  refine wp_bi (x := (i32 6)) ⟨rfl, rfl⟩ (by decide) ?_
  have eA : lv_args 0 ([.int (i32 6), .int (x3 >>> ((i32 4) &&& 31))].reverse) = [(0, .int (x3 >>> ((i32 4) &&& 31))), (1, .int (i32 6))] := by simp [lv_args, vc_i, vc_l, vc_r, vc_n, vc_a]
  refine wp_callS (ar := [.int (i32 6), .int (x3 >>> ((i32 4) &&& 31))]) (rest := [.int (i32 3)]) (s1 := 0) (s2 := s) (d' := d) ⟨rfl, rfl⟩ rfl (Or.inl rfl) rfl (by simp [re_cat, vc_i, vc_l, vc_r, vc_n, vc_a]) (by rw [show re_cat ([.int (i32 6), .int (x3 >>> ((i32 4) &&& 31))].reverse) = 2 from by simp [re_cat, vc_i, vc_l, vc_r, vc_n, vc_a]]; decide) (by decide) rfl rfl (Nat.le_of_eq (Nat.zero_add s)) ?_
  rw [eA]
  exact wp_mono K (fun k v h' z => wp_ret_weak (re_sb_at rfl (re_sb_at rfl (re_sb_at rfl (re_sb_at rfl (re_sb_nil _))))) z)
set_option maxRecDepth 20000 in
theorem B584_150 {SC : List Value} {d s : Nat} {h : re_H} {Q : Nat → Value → re_H → Prop} {a0 : Nat} {a1 : Nat} {a2 : Nat} {x3 : Int32} {xs0 : Int32} {xs1 : Int32}
    (K1 : ¬ (xs1 + xs0) = (i32 5) → wp SC 584 d s 163 [(0, .ref a0), (1, .ref a1), (2, .ref a2), (3, .int x3), (5, .int (xs1 + xs0))] [] h Q) (K2 : (xs1 + xs0) = (i32 5) → wp SC 584 d s 159 [(0, .ref a0), (1, .ref a1), (2, .ref a2), (3, .int x3), (5, .int (xs1 + xs0))] [] h Q) : wp SC 584 d s 150 [(0, .ref a0), (1, .ref a1), (2, .ref a2), (3, .int x3)] [.int xs0, .int xs1] h Q := by
  refine wp_run 4 (pc' := 156) (lv' := [(5, .int (xs1 + xs0)), (0, .ref a0), (1, .ref a1), (2, .ref a2), (3, .int x3)]) (st' := [.int (i32 5), .int (xs1 + xs0)]) rfl ?_
  exact wp_cmp ⟨rfl, rfl⟩ rfl (fun hc => wp_weak (re_sb_at rfl (re_sb_at rfl (re_sb_at rfl (re_sb_at rfl (re_sb_at rfl (re_sb_nil _)))))) (K1 (ic1_ne hc))) (fun hc => wp_weak (re_sb_at rfl (re_sb_at rfl (re_sb_at rfl (re_sb_at rfl (re_sb_at rfl (re_sb_nil _)))))) (K2 (ic0_ne hc)))
set_option maxRecDepth 20000 in
theorem B584_159 {SC : List Value} {d s : Nat} {h : re_H} {Q : Nat → Value → re_H → Prop} {a0 : Nat} {a1 : Nat} {a2 : Nat} {x3 : Int32} {x5 : Int32}
    (K : wp SC 584 d s 181 [(0, .ref a0), (1, .ref a1), (2, .ref a2), (3, .int x3), (5, .int x5)] [.int (i32 3)] h Q) : wp SC 584 d s 159 [(0, .ref a0), (1, .ref a1), (2, .ref a2), (3, .int x3), (5, .int x5)] [] h Q := by
  refine wp_run 2 (pc' := 181) (lv' := [(0, .ref a0), (1, .ref a1), (2, .ref a2), (3, .int x3), (5, .int x5)]) (st' := [.int (i32 3)]) rfl ?_
  exact wp_weak (re_sb_at rfl (re_sb_at rfl (re_sb_at rfl (re_sb_at rfl (re_sb_at rfl (re_sb_nil _)))))) K
set_option maxRecDepth 20000 in
theorem B584_163 {SC : List Value} {d s : Nat} {h : re_H} {Q : Nat → Value → re_H → Prop} {a0 : Nat} {a1 : Nat} {a2 : Nat} {x3 : Int32} {x5 : Int32}
    (K1 : x5 = (i32 3) → wp SC 584 d s 176 [(0, .ref a0), (1, .ref a1), (2, .ref a2), (3, .int x3), (5, .int x5)] [] h Q) (K2 : ¬ x5 = (i32 3) → wp SC 584 d s 169 [(0, .ref a0), (1, .ref a1), (2, .ref a2), (3, .int x3), (5, .int x5)] [] h Q) : wp SC 584 d s 163 [(0, .ref a0), (1, .ref a1), (2, .ref a2), (3, .int x3), (5, .int x5)] [] h Q := by
  refine wp_run 2 (pc' := 166) (lv' := [(0, .ref a0), (1, .ref a1), (2, .ref a2), (3, .int x3), (5, .int x5)]) (st' := [.int (i32 3), .int x5]) rfl ?_
  exact wp_cmp ⟨rfl, rfl⟩ rfl (fun hc => wp_weak (re_sb_at rfl (re_sb_at rfl (re_sb_at rfl (re_sb_at rfl (re_sb_at rfl (re_sb_nil _)))))) (K1 (ic1_eq hc))) (fun hc => wp_weak (re_sb_at rfl (re_sb_at rfl (re_sb_at rfl (re_sb_at rfl (re_sb_at rfl (re_sb_nil _)))))) (K2 (ic0_eq hc)))
set_option maxRecDepth 20000 in
theorem B584_169 {SC : List Value} {d s : Nat} {h : re_H} {Q : Nat → Value → re_H → Prop} {a0 : Nat} {a1 : Nat} {a2 : Nat} {x3 : Int32} {x5 : Int32}
    (K1 : ¬ x5 = (i32 7) → wp SC 584 d s 180 [(0, .ref a0), (1, .ref a1), (2, .ref a2), (3, .int x3), (5, .int x5)] [] h Q) (K2 : x5 = (i32 7) → wp SC 584 d s 176 [(0, .ref a0), (1, .ref a1), (2, .ref a2), (3, .int x3), (5, .int x5)] [] h Q) : wp SC 584 d s 169 [(0, .ref a0), (1, .ref a1), (2, .ref a2), (3, .int x3), (5, .int x5)] [] h Q := by
  refine wp_run 1 (pc' := 171) (lv' := [(0, .ref a0), (1, .ref a1), (2, .ref a2), (3, .int x3), (5, .int x5)]) (st' := [.int x5]) rfl ?_
  refine wp_bi (x := (i32 7)) ⟨rfl, rfl⟩ (by decide) ?_
  exact wp_cmp ⟨rfl, rfl⟩ rfl (fun hc => wp_weak (re_sb_at rfl (re_sb_at rfl (re_sb_at rfl (re_sb_at rfl (re_sb_at rfl (re_sb_nil _)))))) (K1 (ic1_ne hc))) (fun hc => wp_weak (re_sb_at rfl (re_sb_at rfl (re_sb_at rfl (re_sb_at rfl (re_sb_at rfl (re_sb_nil _)))))) (K2 (ic0_ne hc)))
set_option maxRecDepth 20000 in
theorem B584_176 {SC : List Value} {d s : Nat} {h : re_H} {Q : Nat → Value → re_H → Prop} {a0 : Nat} {a1 : Nat} {a2 : Nat} {x3 : Int32} {x5 : Int32}
    (K : wp SC 584 d s 181 [(0, .ref a0), (1, .ref a1), (2, .ref a2), (3, .int x3), (5, .int x5)] [.int (i32 1)] h Q) : wp SC 584 d s 176 [(0, .ref a0), (1, .ref a1), (2, .ref a2), (3, .int x3), (5, .int x5)] [] h Q := by
  refine wp_run 2 (pc' := 181) (lv' := [(0, .ref a0), (1, .ref a1), (2, .ref a2), (3, .int x3), (5, .int x5)]) (st' := [.int (i32 1)]) rfl ?_
  exact wp_weak (re_sb_at rfl (re_sb_at rfl (re_sb_at rfl (re_sb_at rfl (re_sb_at rfl (re_sb_nil _)))))) K
set_option maxRecDepth 20000 in
theorem B584_180 {SC : List Value} {d s : Nat} {h : re_H} {Q : Nat → Value → re_H → Prop} {a0 : Nat} {a1 : Nat} {a2 : Nat} {x3 : Int32} {x5 : Int32}
    (K : wp SC 584 d s 181 [(0, .ref a0), (1, .ref a1), (2, .ref a2), (3, .int x3), (5, .int x5)] [.int (i32 2)] h Q) : wp SC 584 d s 180 [(0, .ref a0), (1, .ref a1), (2, .ref a2), (3, .int x3), (5, .int x5)] [] h Q := by
  refine wp_run 1 (pc' := 181) (lv' := [(0, .ref a0), (1, .ref a1), (2, .ref a2), (3, .int x3), (5, .int x5)]) (st' := [.int (i32 2)]) rfl ?_
  exact wp_weak (re_sb_at rfl (re_sb_at rfl (re_sb_at rfl (re_sb_at rfl (re_sb_at rfl (re_sb_nil _)))))) K
set_option maxRecDepth 20000 in
theorem B584_181 {SC : List Value} {d s : Nat} {h : re_H} {Q : Nat → Value → re_H → Prop} {a0 : Nat} {a1 : Nat} {a2 : Nat} {x3 : Int32} {x5 : Int32} {xs0 : Int32}
    (K1 : ¬ x5 = (i32 4) → wp SC 584 d s 204 [(2, .ref a2), (3, .int x3), (6, .int xs0)] [.int x5, .ref a1, .ref a0] h Q) (K2 : x5 = (i32 4) → wp SC 584 d s 193 [(2, .ref a2), (3, .int x3), (6, .int xs0)] [.int x5, .ref a1, .ref a0] h Q) : wp SC 584 d s 181 [(0, .ref a0), (1, .ref a1), (2, .ref a2), (3, .int x3), (5, .int x5)] [.int xs0] h Q := by
  refine wp_run 6 (pc' := 190) (lv' := [(6, .int xs0), (0, .ref a0), (1, .ref a1), (2, .ref a2), (3, .int x3), (5, .int x5)]) (st' := [.int (i32 4), .int x5, .int x5, .ref a1, .ref a0]) rfl ?_
  exact wp_cmp ⟨rfl, rfl⟩ rfl (fun hc => wp_weak (re_sb_at rfl (re_sb_at rfl (re_sb_at rfl (re_sb_nil _)))) (K1 (ic1_ne hc))) (fun hc => wp_weak (re_sb_at rfl (re_sb_at rfl (re_sb_at rfl (re_sb_nil _)))) (K2 (ic0_ne hc)))
set_option maxRecDepth 20000 in
theorem B584_193 {SC : List Value} {d s : Nat} {h : re_H} {Q : Nat → Value → re_H → Prop} {a2 : Nat} {x3 : Int32} {x6 : Int32} {xs0 : Int32} {as1 : Nat} {as2 : Nat}
    (K : wp SC 577 d 0 0 [(0, .int (x3 >>> ((i32 7) &&& 31))), (1, .int (i32 4))] [] h (wp_ret SC 584 (d + 1) s 201 [(2, .ref a2), (6, .int x6)] [.int xs0, .ref as1, .ref as2] Q)) : wp SC 584 (d + 1) s 193 [(2, .ref a2), (3, .int x3), (6, .int x6)] [.int xs0, .ref as1, .ref as2] h Q := by
  refine wp_run 1 (pc' := 194) (lv' := [(2, .ref a2), (3, .int x3), (6, .int x6)]) (st' := [.int x3, .int xs0, .ref as1, .ref as2]) rfl ?_
  refine wp_bi (x := (i32 7)) ⟨rfl, rfl⟩ (by decide) ?_
  refine wp_run 2 (pc' := 198) (lv' := [(2, .ref a2), (3, .int x3), (6, .int x6)]) (st' := [.int (i32 4), .int (x3 >>> ((i32 7) &&& 31)), .int xs0, .ref as1, .ref as2]) rfl ?_
  have eA : lv_args 0 ([.int (i32 4), .int (x3 >>> ((i32 7) &&& 31))].reverse) = [(0, .int (x3 >>> ((i32 7) &&& 31))), (1, .int (i32 4))] := by simp [lv_args, vc_i, vc_l, vc_r, vc_n, vc_a]
  refine wp_callS (ar := [.int (i32 4), .int (x3 >>> ((i32 7) &&& 31))]) (rest := [.int xs0, .ref as1, .ref as2]) (s1 := 0) (s2 := s) (d' := d) ⟨rfl, rfl⟩ rfl (Or.inl rfl) rfl (by simp [re_cat, vc_i, vc_l, vc_r, vc_n, vc_a]) (by rw [show re_cat ([.int (i32 4), .int (x3 >>> ((i32 7) &&& 31))].reverse) = 2 from by simp [re_cat, vc_i, vc_l, vc_r, vc_n, vc_a]]; decide) (by decide) rfl rfl (Nat.le_of_eq (Nat.zero_add s)) ?_
  rw [eA]
  exact wp_mono K (fun k v h' z => wp_ret_weak (re_sb_at rfl (re_sb_at rfl (re_sb_nil _))) z)
set_option maxRecDepth 20000 in
theorem B584_201 {SC : List Value} {d s : Nat} {h : re_H} {Q : Nat → Value → re_H → Prop} {a2 : Nat} {x6 : Int32} {xs0 : Int32} {xs1 : Int32} {as2 : Nat} {as3 : Nat}
    (K : wp SC 584 d s 213 [(2, .ref a2), (6, .int x6)] [.int xs0, .int xs1, .ref as2, .ref as3] h Q) : wp SC 584 d s 201 [(2, .ref a2), (6, .int x6)] [.int xs0, .int xs1, .ref as2, .ref as3] h Q := by
  refine wp_run 1 (pc' := 213) (lv' := [(2, .ref a2), (6, .int x6)]) (st' := [.int xs0, .int xs1, .ref as2, .ref as3]) rfl ?_
  exact wp_weak (re_sb_at rfl (re_sb_at rfl (re_sb_nil _))) K
set_option maxRecDepth 20000 in
theorem B584_204 {SC : List Value} {d s : Nat} {h : re_H} {Q : Nat → Value → re_H → Prop} {a2 : Nat} {x3 : Int32} {x6 : Int32} {xs0 : Int32} {as1 : Nat} {as2 : Nat}
    (K : wp SC 577 d 0 0 [(0, .int (x3 >>> ((i32 7) &&& 31))), (1, .int (i32 6))] [] h (wp_ret SC 584 (d + 1) s 213 [(2, .ref a2), (6, .int x6)] [.int xs0, .ref as1, .ref as2] Q)) : wp SC 584 (d + 1) s 204 [(2, .ref a2), (3, .int x3), (6, .int x6)] [.int xs0, .ref as1, .ref as2] h Q := by
  refine wp_run 1 (pc' := 205) (lv' := [(2, .ref a2), (3, .int x3), (6, .int x6)]) (st' := [.int x3, .int xs0, .ref as1, .ref as2]) rfl ?_
  refine wp_bi (x := (i32 7)) ⟨rfl, rfl⟩ (by decide) ?_
  refine wp_run 1 (pc' := 208) (lv' := [(2, .ref a2), (3, .int x3), (6, .int x6)]) (st' := [.int (x3 >>> ((i32 7) &&& 31)), .int xs0, .ref as1, .ref as2]) rfl ?_
  refine wp_bi (x := (i32 6)) ⟨rfl, rfl⟩ (by decide) ?_
  have eA : lv_args 0 ([.int (i32 6), .int (x3 >>> ((i32 7) &&& 31))].reverse) = [(0, .int (x3 >>> ((i32 7) &&& 31))), (1, .int (i32 6))] := by simp [lv_args, vc_i, vc_l, vc_r, vc_n, vc_a]
  refine wp_callS (ar := [.int (i32 6), .int (x3 >>> ((i32 7) &&& 31))]) (rest := [.int xs0, .ref as1, .ref as2]) (s1 := 0) (s2 := s) (d' := d) ⟨rfl, rfl⟩ rfl (Or.inl rfl) rfl (by simp [re_cat, vc_i, vc_l, vc_r, vc_n, vc_a]) (by rw [show re_cat ([.int (i32 6), .int (x3 >>> ((i32 7) &&& 31))].reverse) = 2 from by simp [re_cat, vc_i, vc_l, vc_r, vc_n, vc_a]]; decide) (by decide) rfl rfl (Nat.le_of_eq (Nat.zero_add s)) ?_
  rw [eA]
  exact wp_mono K (fun k v h' z => wp_ret_weak (re_sb_at rfl (re_sb_at rfl (re_sb_nil _))) z)
set_option maxRecDepth 20000 in
theorem B584_213 {SC : List Value} {d s : Nat} {h : re_H} {Q : Nat → Value → re_H → Prop} {a2 : Nat} {x6 : Int32} {xs0 : Int32} {xs1 : Int32} {as2 : Nat} {as3 : Nat}
    (K : wp SC 581 d 0 0 [(0, .ref as3), (1, .ref as2), (2, .int xs1), (3, .int xs0), (4, .int (i32 0))] [] h (wp_ret SC 584 (d + 1) s 217 [(2, .ref a2), (6, .int x6)] [] Q)) : wp SC 584 (d + 1) s 213 [(2, .ref a2), (6, .int x6)] [.int xs0, .int xs1, .ref as2, .ref as3] h Q := by
  refine wp_run 1 (pc' := 214) (lv' := [(2, .ref a2), (6, .int x6)]) (st' := [.int (i32 0), .int xs0, .int xs1, .ref as2, .ref as3]) rfl ?_
  have eA : lv_args 0 ([.int (i32 0), .int xs0, .int xs1, .ref as2, .ref as3].reverse) = [(0, .ref as3), (1, .ref as2), (2, .int xs1), (3, .int xs0), (4, .int (i32 0))] := by simp [lv_args, vc_i, vc_l, vc_r, vc_n, vc_a]
  refine wp_callS (ar := [.int (i32 0), .int xs0, .int xs1, .ref as2, .ref as3]) (rest := []) (s1 := 0) (s2 := s) (d' := d) ⟨rfl, rfl⟩ rfl (Or.inl rfl) rfl (by simp [re_cat, vc_i, vc_l, vc_r, vc_n, vc_a]) (by rw [show re_cat ([.int (i32 0), .int xs0, .int xs1, .ref as2, .ref as3].reverse) = 5 from by simp [re_cat, vc_i, vc_l, vc_r, vc_n, vc_a]]; decide) (by decide) rfl rfl (Nat.le_of_eq (Nat.zero_add s)) ?_
  rw [eA]
  exact wp_mono K (fun k v h' z => wp_ret_weak (re_sb_at rfl (re_sb_at rfl (re_sb_nil _))) z)
set_option maxRecDepth 20000 in
theorem B584_217 {SC : List Value} {d s : Nat} {h : re_H} {Q : Nat → Value → re_H → Prop} {a2 : Nat} {x6 : Int32} {ls0 : Int64}
    (K1 : ls0 = (-2000000003) → wp SC 584 d s 251 [(2, .ref a2), (7, .long ls0)] [] h Q) (K2 : ¬ ls0 = (-2000000003) → wp SC 584 d s 228 [(2, .ref a2), (6, .int x6), (7, .long ls0)] [] h Q) : wp SC 584 d s 217 [(2, .ref a2), (6, .int x6)] [.long ls0] h Q := by
  refine wp_run 2 (pc' := 221) (lv' := [(7, .long ls0), (2, .ref a2), (6, .int x6)]) (st' := [.long ls0]) rfl ?_
  refine wp_cst (pc' := 224) (v := .long (-2000000003)) ⟨rfl, rfl⟩ rfl rfl rfl rfl rfl ?_
  refine wp_run 1 (pc' := 225) (lv' := [(7, .long ls0), (2, .ref a2), (6, .int x6)]) (st' := [.int (lg_cmp ls0 (-2000000003))]) rfl ?_
  exact wp_if ⟨rfl, rfl⟩ rfl (fun hc => wp_weak (re_sb_at rfl (re_sb_at rfl (re_sb_nil _))) (K1 (lc1_eq hc))) (fun hc => wp_weak (re_sb_at rfl (re_sb_at rfl (re_sb_at rfl (re_sb_nil _)))) (K2 (lc0_eq hc)))
set_option maxRecDepth 20000 in
theorem B584_228 {SC : List Value} {d s : Nat} {h : re_H} {Q : Nat → Value → re_H → Prop} {a2 : Nat} {x6 : Int32} {l7 : Int64}
    {xe1 : Int32} (e2 : nb_ar h a2 100 (i32 0) (.int xe1)) (K1 : xe1 < x6 → wp SC 584 d s 255 [(2, .ref a2), (7, .long l7)] [] h Q) (K2 : ¬ xe1 < x6 → wp SC 584 d s 236 [(2, .ref a2), (6, .int x6), (7, .long l7)] [] h Q) : wp SC 584 d s 228 [(2, .ref a2), (6, .int x6), (7, .long l7)] [] h Q := by
  refine wp_run 2 (pc' := 230) (lv' := [(2, .ref a2), (6, .int x6), (7, .long l7)]) (st' := [.int (i32 0), .ref a2]) rfl ?_
  obtain ⟨w2, i2, e2a, e2x, e2i, e2v⟩ := e2
  refine wp_ial ⟨rfl, rfl⟩ e2a rfl e2x e2i e2v ?_
  refine wp_run 1 (pc' := 233) (lv' := [(2, .ref a2), (6, .int x6), (7, .long l7)]) (st' := [.int x6, .int xe1]) rfl ?_
  exact wp_cmp ⟨rfl, rfl⟩ rfl (fun hc => wp_weak (re_sb_at rfl (re_sb_at rfl (re_sb_nil _))) (K1 (ic1_lt hc))) (fun hc => wp_weak (re_sb_at rfl (re_sb_at rfl (re_sb_at rfl (re_sb_nil _)))) (K2 (ic0_lt hc)))
set_option maxRecDepth 20000 in
theorem B584_236 {SC : List Value} {d s : Nat} {h : re_H} {Q : Nat → Value → re_H → Prop} {a2 : Nat} {x6 : Int32} {l7 : Int64}
    {xe1 : Int32} (e2 : nb_ar h a2 100 (i32 0) (.int xe1)) (K1 : ¬ (lg_cmp l7 ((xe1 - x6) + (i32 1)).toInt64) = 0 → wp SC 584 d s 255 [(2, .ref a2), (7, .long l7)] [] h Q) (K2 : (lg_cmp l7 ((xe1 - x6) + (i32 1)).toInt64) = 0 → wp SC 584 d s 251 [(2, .ref a2), (7, .long l7)] [] h Q) : wp SC 584 d s 236 [(2, .ref a2), (6, .int x6), (7, .long l7)] [] h Q := by
  refine wp_run 3 (pc' := 240) (lv' := [(2, .ref a2), (6, .int x6), (7, .long l7)]) (st' := [.int (i32 0), .ref a2, .long l7]) rfl ?_
  obtain ⟨w2, i2, e2a, e2x, e2i, e2v⟩ := e2
  refine wp_ial ⟨rfl, rfl⟩ e2a rfl e2x e2i e2v ?_
  refine wp_run 6 (pc' := 248) (lv' := [(2, .ref a2), (6, .int x6), (7, .long l7)]) (st' := [.int (lg_cmp l7 ((xe1 - x6) + (i32 1)).toInt64)]) rfl ?_
  exact wp_if ⟨rfl, rfl⟩ rfl (fun hc => wp_weak (re_sb_at rfl (re_sb_at rfl (re_sb_nil _))) (K1 (ic1_ne hc))) (fun hc => wp_weak (re_sb_at rfl (re_sb_at rfl (re_sb_nil _))) (K2 (ic0_ne hc)))
set_option maxRecDepth 20000 in
theorem B584_251 {SC : List Value} {d s : Nat} {h : re_H} {Q : Nat → Value → re_H → Prop} {a2 : Nat} {l7 : Int64}
    (K : wp SC 584 d s 256 [(2, .ref a2), (7, .long l7)] [.int (i32 1)] h Q) : wp SC 584 d s 251 [(2, .ref a2), (7, .long l7)] [] h Q := by
  refine wp_run 2 (pc' := 256) (lv' := [(2, .ref a2), (7, .long l7)]) (st' := [.int (i32 1)]) rfl ?_
  exact wp_weak (re_sb_at rfl (re_sb_at rfl (re_sb_nil _))) K
set_option maxRecDepth 20000 in
theorem B584_255 {SC : List Value} {d s : Nat} {h : re_H} {Q : Nat → Value → re_H → Prop} {a2 : Nat} {l7 : Int64}
    (K : wp SC 584 d s 256 [(2, .ref a2), (7, .long l7)] [.int (i32 0)] h Q) : wp SC 584 d s 255 [(2, .ref a2), (7, .long l7)] [] h Q := by
  refine wp_run 1 (pc' := 256) (lv' := [(2, .ref a2), (7, .long l7)]) (st' := [.int (i32 0)]) rfl ?_
  exact wp_weak (re_sb_at rfl (re_sb_at rfl (re_sb_nil _))) K
set_option maxRecDepth 20000 in
theorem B584_256 {SC : List Value} {d s : Nat} {h : re_H} {Q : Nat → Value → re_H → Prop} {a2 : Nat} {l7 : Int64} {xs0 : Int32}
    (K1 : ¬ (0) < l7 → wp SC 584 d s 273 [(2, .ref a2), (9, .int xs0)] [.int (i32 0), .ref a2] h Q) (K2 : (0) < l7 → wp SC 584 d s 267 [(7, .long l7), (9, .int xs0)] [.int (i32 0), .ref a2] h Q) : wp SC 584 d s 256 [(2, .ref a2), (7, .long l7)] [.int xs0] h Q := by
  refine wp_run 6 (pc' := 264) (lv' := [(9, .int xs0), (2, .ref a2), (7, .long l7)]) (st' := [.int (lg_cmp l7 (0)), .int (i32 0), .ref a2]) rfl ?_
  exact wp_if ⟨rfl, rfl⟩ rfl (fun hc => wp_weak (re_sb_at rfl (re_sb_at rfl (re_sb_nil _))) (K1 (lc1_le hc))) (fun hc => wp_weak (re_sb_at rfl (re_sb_at rfl (re_sb_nil _))) (K2 (lc0_le hc)))
set_option maxRecDepth 20000 in
theorem B584_267 {SC : List Value} {d s : Nat} {h : re_H} {Q : Nat → Value → re_H → Prop} {l7 : Int64} {x9 : Int32} {xs0 : Int32} {as1 : Nat}
    (K : wp SC 584 d s 276 [(9, .int x9)] [.int l7.toInt32, .int xs0, .ref as1] h Q) : wp SC 584 d s 267 [(7, .long l7), (9, .int x9)] [.int xs0, .ref as1] h Q := by
  refine wp_run 3 (pc' := 276) (lv' := [(7, .long l7), (9, .int x9)]) (st' := [.int l7.toInt32, .int xs0, .ref as1]) rfl ?_
  exact wp_weak (re_sb_at rfl (re_sb_nil _)) K
set_option maxRecDepth 20000 in
theorem B584_273 {SC : List Value} {d s : Nat} {h : re_H} {Q : Nat → Value → re_H → Prop} {a2 : Nat} {x9 : Int32} {xs0 : Int32} {as1 : Nat}
    {xe1 : Int32} (e2 : nb_ar h a2 100 (i32 0) (.int xe1)) (K : wp SC 584 d s 276 [(9, .int x9)] [.int xe1, .int xs0, .ref as1] h Q) : wp SC 584 d s 273 [(2, .ref a2), (9, .int x9)] [.int xs0, .ref as1] h Q := by
  refine wp_run 2 (pc' := 275) (lv' := [(2, .ref a2), (9, .int x9)]) (st' := [.int (i32 0), .ref a2, .int xs0, .ref as1]) rfl ?_
  obtain ⟨w2, i2, e2a, e2x, e2i, e2v⟩ := e2
  refine wp_ial ⟨rfl, rfl⟩ e2a rfl e2x e2i e2v ?_
  exact wp_weak (re_sb_at rfl (re_sb_nil _)) K
set_option maxRecDepth 20000 in
theorem B584_276 {SC : List Value} {d s : Nat} {h : re_H} {Q : Nat → Value → re_H → Prop} {x9 : Int32} {xs0 : Int32} {xs1 : Int32} {as2 : Nat}
    {w : List Value} {i : Nat} (e : re_hg h as2 = some (100, w)) (hx : xs1 = i32 i) (hi : i < 2147483648) (hl : i < w.length) (K : wp SC 584 d s 277 [(9, .int x9)] [] (re_hw h as2 (100, w.set i (.int xs0))) Q) : wp SC 584 d s 276 [(9, .int x9)] [.int xs0, .int xs1, .ref as2] h Q := by
  exact wp_ias ⟨rfl, rfl⟩ e rfl hx hi hl (wp_weak (re_sb_at rfl (re_sb_nil _)) K)
set_option maxRecDepth 20000 in
theorem B584_277 {SC : List Value} {d s : Nat} {h : re_H} {Q : Nat → Value → re_H → Prop} {x9 : Int32}
    (hz : x9 = 0 ∨ x9 = 1) (K : Q 1 (.int x9) h) : wp SC 584 d s 277 [(9, .int x9)] [] h Q := by
  refine wp_run 1 (pc' := 279) (lv' := [(9, .int x9)]) (st' := [.int x9]) rfl ?_
  exact wp_retz ⟨rfl, rfl⟩ rfl hz K
