set_option maxRecDepth 20000 in
theorem L587_0 {SC : List Value} {d s : Nat} {h : re_H} {Q : Nat → Value → re_H → Prop} {a0 : Nat} {x1 : Int32}
    {s1 s2 : Nat} (hs : s1 + s2 ≤ s) (K : wp SC 578 d s1 0 [(0, .ref a0), (1, .int x1)] [] h (wp_ret SC 587 (d + 1) s2 5 [(0, .ref a0), (1, .int x1)] [] Q)) : wp SC 587 (d + 1) s 0 [(0, .ref a0), (1, .int x1)] [] h Q := by
  refine wp_run 2 (pc' := 2) (lv' := [(0, .ref a0), (1, .int x1)]) (st' := [.int x1, .ref a0]) rfl ?_
  have eA : lv_args 0 ([.int x1, .ref a0].reverse) = [(0, .ref a0), (1, .int x1)] := by simp [lv_args, vc_i, vc_l, vc_r, vc_n, vc_a]
  refine wp_callS (ar := [.int x1, .ref a0]) (rest := []) (s1 := s1) (s2 := s2) (d' := d) ⟨rfl, rfl⟩ rfl (Or.inl rfl) rfl (by simp [re_cat, vc_i, vc_l, vc_r, vc_n, vc_a]) (by rw [show re_cat ([.int x1, .ref a0].reverse) = 2 from by simp [re_cat, vc_i, vc_l, vc_r, vc_n, vc_a]]; decide) (by decide) rfl rfl hs ?_
  rw [eA]
  exact wp_mono K (fun k v h' z => wp_ret_weak (re_sb_at rfl (re_sb_at rfl (re_sb_nil _))) z)
set_option maxRecDepth 20000 in
theorem L587_5 {SC : List Value} {d s : Nat} {h : re_H} {Q : Nat → Value → re_H → Prop} {a0 : Nat} {x1 : Int32} {ls0 : Int64}
    {s1 s2 : Nat} (hs : s1 + s2 ≤ s) (K : wp SC 579 d s1 0 [(0, .ref a0), (1, .int (i32 1)), (2, .int (-1)), (3, .int (i32 0))] [] h (wp_ret SC 587 (d + 1) s2 13 [(0, .ref a0), (1, .int x1), (2, .long ls0)] [] Q)) : wp SC 587 (d + 1) s 5 [(0, .ref a0), (1, .int x1)] [.long ls0] h Q := by
  refine wp_run 5 (pc' := 10) (lv' := [(2, .long ls0), (0, .ref a0), (1, .int x1)]) (st' := [.int (i32 0), .int (-1), .int (i32 1), .ref a0]) rfl ?_
  have eA : lv_args 0 ([.int (i32 0), .int (-1), .int (i32 1), .ref a0].reverse) = [(0, .ref a0), (1, .int (i32 1)), (2, .int (-1)), (3, .int (i32 0))] := by simp [lv_args, vc_i, vc_l, vc_r, vc_n, vc_a]
  refine wp_callS (ar := [.int (i32 0), .int (-1), .int (i32 1), .ref a0]) (rest := []) (s1 := s1) (s2 := s2) (d' := d) ⟨rfl, rfl⟩ rfl (Or.inr (Or.inr rfl)) rfl (by simp [re_cat, vc_i, vc_l, vc_r, vc_n, vc_a]) (by rw [show re_cat ([.int (i32 0), .int (-1), .int (i32 1), .ref a0].reverse) = 4 from by simp [re_cat, vc_i, vc_l, vc_r, vc_n, vc_a]]; decide) (by decide) rfl rfl hs ?_
  rw [eA]
  exact wp_mono K (fun k v h' z => wp_ret_weak (re_sb_at rfl (re_sb_at rfl (re_sb_at rfl (re_sb_nil _)))) z)
set_option maxRecDepth 20000 in
theorem L587_13 {SC : List Value} {d s : Nat} {h : re_H} {Q : Nat → Value → re_H → Prop} {a0 : Nat} {x1 : Int32} {l2 : Int64} {ls0 : Int64}
    (K1 : ¬ ls0 = (-2000000001) → wp SC 587 d s 254 [(0, .ref a0), (1, .int x1), (2, .long l2)] [] h Q) (K2 : ls0 = (-2000000001) → wp SC 587 d s 20 [(0, .ref a0), (1, .int x1), (2, .long l2)] [] h Q) : wp SC 587 d s 13 [(0, .ref a0), (1, .int x1), (2, .long l2)] [.long ls0] h Q := by
  refine wp_cst (pc' := 16) (v := .long (-2000000001)) ⟨rfl, rfl⟩ rfl rfl rfl rfl rfl ?_
  refine wp_run 1 (pc' := 17) (lv' := [(0, .ref a0), (1, .int x1), (2, .long l2)]) (st' := [.int (lg_cmp ls0 (-2000000001))]) rfl ?_
  exact wp_if ⟨rfl, rfl⟩ rfl (fun hc => wp_weak (re_sb_at rfl (re_sb_at rfl (re_sb_at rfl (re_sb_nil _)))) (K1 (lc1_ne hc))) (fun hc => wp_weak (re_sb_at rfl (re_sb_at rfl (re_sb_at rfl (re_sb_nil _)))) (K2 (lc0_ne hc)))
set_option maxRecDepth 20000 in
theorem L587_20 {SC : List Value} {d s : Nat} {h : re_H} {Q : Nat → Value → re_H → Prop} {a0 : Nat} {x1 : Int32} {l2 : Int64}
    {s1 s2 : Nat} (hs : s1 + s2 ≤ s) (K : wp SC 579 d s1 0 [(0, .ref a0), (1, .int (i32 2)), (2, .int (i32 4)), (3, .int (i32 0))] [] h (wp_ret SC 587 (d + 1) s2 27 [(0, .ref a0), (1, .int x1), (2, .long l2)] [] Q)) : wp SC 587 (d + 1) s 20 [(0, .ref a0), (1, .int x1), (2, .long l2)] [] h Q := by
  refine wp_run 4 (pc' := 24) (lv' := [(0, .ref a0), (1, .int x1), (2, .long l2)]) (st' := [.int (i32 0), .int (i32 4), .int (i32 2), .ref a0]) rfl ?_
  have eA : lv_args 0 ([.int (i32 0), .int (i32 4), .int (i32 2), .ref a0].reverse) = [(0, .ref a0), (1, .int (i32 2)), (2, .int (i32 4)), (3, .int (i32 0))] := by simp [lv_args, vc_i, vc_l, vc_r, vc_n, vc_a]
  refine wp_callS (ar := [.int (i32 0), .int (i32 4), .int (i32 2), .ref a0]) (rest := []) (s1 := s1) (s2 := s2) (d' := d) ⟨rfl, rfl⟩ rfl (Or.inr (Or.inr rfl)) rfl (by simp [re_cat, vc_i, vc_l, vc_r, vc_n, vc_a]) (by rw [show re_cat ([.int (i32 0), .int (i32 4), .int (i32 2), .ref a0].reverse) = 4 from by simp [re_cat, vc_i, vc_l, vc_r, vc_n, vc_a]]; decide) (by decide) rfl rfl hs ?_
  rw [eA]
  exact wp_mono K (fun k v h' z => wp_ret_weak (re_sb_at rfl (re_sb_at rfl (re_sb_at rfl (re_sb_nil _)))) z)
set_option maxRecDepth 20000 in
theorem L587_27 {SC : List Value} {d s : Nat} {h : re_H} {Q : Nat → Value → re_H → Prop} {a0 : Nat} {x1 : Int32} {l2 : Int64} {ls0 : Int64}
    (K1 : ¬ ls0 = (-2000000001) → wp SC 587 d s 254 [(0, .ref a0), (1, .int x1), (2, .long l2)] [] h Q) (K2 : ls0 = (-2000000001) → wp SC 587 d s 34 [(0, .ref a0), (1, .int x1), (2, .long l2)] [] h Q) : wp SC 587 d s 27 [(0, .ref a0), (1, .int x1), (2, .long l2)] [.long ls0] h Q := by
  refine wp_cst (pc' := 30) (v := .long (-2000000001)) ⟨rfl, rfl⟩ rfl rfl rfl rfl rfl ?_
  refine wp_run 1 (pc' := 31) (lv' := [(0, .ref a0), (1, .int x1), (2, .long l2)]) (st' := [.int (lg_cmp ls0 (-2000000001))]) rfl ?_
  exact wp_if ⟨rfl, rfl⟩ rfl (fun hc => wp_weak (re_sb_at rfl (re_sb_at rfl (re_sb_at rfl (re_sb_nil _)))) (K1 (lc1_ne hc))) (fun hc => wp_weak (re_sb_at rfl (re_sb_at rfl (re_sb_at rfl (re_sb_nil _)))) (K2 (lc0_ne hc)))
set_option maxRecDepth 20000 in
theorem L587_34 {SC : List Value} {d s : Nat} {h : re_H} {Q : Nat → Value → re_H → Prop} {a0 : Nat} {x1 : Int32} {l2 : Int64}
    {s1 s2 : Nat} (hs : s1 + s2 ≤ s) (K : wp SC 579 d s1 0 [(0, .ref a0), (1, .int (i32 4)), (2, .int (-1)), (3, .int (i32 0))] [] h (wp_ret SC 587 (d + 1) s2 41 [(0, .ref a0), (1, .int x1), (2, .long l2)] [] Q)) : wp SC 587 (d + 1) s 34 [(0, .ref a0), (1, .int x1), (2, .long l2)] [] h Q := by
  refine wp_run 4 (pc' := 38) (lv' := [(0, .ref a0), (1, .int x1), (2, .long l2)]) (st' := [.int (i32 0), .int (-1), .int (i32 4), .ref a0]) rfl ?_
  have eA : lv_args 0 ([.int (i32 0), .int (-1), .int (i32 4), .ref a0].reverse) = [(0, .ref a0), (1, .int (i32 4)), (2, .int (-1)), (3, .int (i32 0))] := by simp [lv_args, vc_i, vc_l, vc_r, vc_n, vc_a]
  refine wp_callS (ar := [.int (i32 0), .int (-1), .int (i32 4), .ref a0]) (rest := []) (s1 := s1) (s2 := s2) (d' := d) ⟨rfl, rfl⟩ rfl (Or.inr (Or.inr rfl)) rfl (by simp [re_cat, vc_i, vc_l, vc_r, vc_n, vc_a]) (by rw [show re_cat ([.int (i32 0), .int (-1), .int (i32 4), .ref a0].reverse) = 4 from by simp [re_cat, vc_i, vc_l, vc_r, vc_n, vc_a]]; decide) (by decide) rfl rfl hs ?_
  rw [eA]
  exact wp_mono K (fun k v h' z => wp_ret_weak (re_sb_at rfl (re_sb_at rfl (re_sb_at rfl (re_sb_nil _)))) z)
set_option maxRecDepth 20000 in
theorem L587_41 {SC : List Value} {d s : Nat} {h : re_H} {Q : Nat → Value → re_H → Prop} {a0 : Nat} {x1 : Int32} {l2 : Int64} {ls0 : Int64}
    (K1 : ¬ ls0 = (-2000000002) → wp SC 587 d s 254 [(0, .ref a0), (1, .int x1), (2, .long l2)] [] h Q) (K2 : ls0 = (-2000000002) → wp SC 587 d s 48 [(0, .ref a0), (1, .int x1), (2, .long l2)] [] h Q) : wp SC 587 d s 41 [(0, .ref a0), (1, .int x1), (2, .long l2)] [.long ls0] h Q := by
  refine wp_cst (pc' := 44) (v := .long (-2000000002)) ⟨rfl, rfl⟩ rfl rfl rfl rfl rfl ?_
  refine wp_run 1 (pc' := 45) (lv' := [(0, .ref a0), (1, .int x1), (2, .long l2)]) (st' := [.int (lg_cmp ls0 (-2000000002))]) rfl ?_
  exact wp_if ⟨rfl, rfl⟩ rfl (fun hc => wp_weak (re_sb_at rfl (re_sb_at rfl (re_sb_at rfl (re_sb_nil _)))) (K1 (lc1_ne hc))) (fun hc => wp_weak (re_sb_at rfl (re_sb_at rfl (re_sb_at rfl (re_sb_nil _)))) (K2 (lc0_ne hc)))
set_option maxRecDepth 20000 in
theorem L587_48 {SC : List Value} {d s : Nat} {h : re_H} {Q : Nat → Value → re_H → Prop} {a0 : Nat} {x1 : Int32} {l2 : Int64}
    {s1 s2 : Nat} (hs : s1 + s2 ≤ s) (K : wp SC 579 d s1 0 [(0, .ref a0), (1, .int (i32 6)), (2, .int (i32 16)), (3, .int (i32 0))] [] h (wp_ret SC 587 (d + 1) s2 57 [(0, .ref a0), (1, .int x1), (2, .long l2)] [] Q)) : wp SC 587 (d + 1) s 48 [(0, .ref a0), (1, .int x1), (2, .long l2)] [] h Q := by
  refine wp_run 1 (pc' := 49) (lv' := [(0, .ref a0), (1, .int x1), (2, .long l2)]) (st' := [.ref a0]) rfl ?_
  refine wp_bi (x := (i32 6)) ⟨rfl, rfl⟩ (by decide) ?_
  refine wp_bi (x := (i32 16)) ⟨rfl, rfl⟩ (by decide) ?_
  refine wp_run 1 (pc' := 54) (lv' := [(0, .ref a0), (1, .int x1), (2, .long l2)]) (st' := [.int (i32 0), .int (i32 16), .int (i32 6), .ref a0]) rfl ?_
  have eA : lv_args 0 ([.int (i32 0), .int (i32 16), .int (i32 6), .ref a0].reverse) = [(0, .ref a0), (1, .int (i32 6)), (2, .int (i32 16)), (3, .int (i32 0))] := by simp [lv_args, vc_i, vc_l, vc_r, vc_n, vc_a]
  refine wp_callS (ar := [.int (i32 0), .int (i32 16), .int (i32 6), .ref a0]) (rest := []) (s1 := s1) (s2 := s2) (d' := d) ⟨rfl, rfl⟩ rfl (Or.inr (Or.inr rfl)) rfl (by simp [re_cat, vc_i, vc_l, vc_r, vc_n, vc_a]) (by rw [show re_cat ([.int (i32 0), .int (i32 16), .int (i32 6), .ref a0].reverse) = 4 from by simp [re_cat, vc_i, vc_l, vc_r, vc_n, vc_a]]; decide) (by decide) rfl rfl hs ?_
  rw [eA]
  exact wp_mono K (fun k v h' z => wp_ret_weak (re_sb_at rfl (re_sb_at rfl (re_sb_at rfl (re_sb_nil _)))) z)
set_option maxRecDepth 20000 in
theorem L587_57 {SC : List Value} {d s : Nat} {h : re_H} {Q : Nat → Value → re_H → Prop} {a0 : Nat} {x1 : Int32} {l2 : Int64} {ls0 : Int64}
    (K1 : ¬ ls0 = (-2000000001) → wp SC 587 d s 254 [(0, .ref a0), (1, .int x1), (2, .long l2)] [] h Q) (K2 : ls0 = (-2000000001) → wp SC 587 d s 64 [(0, .ref a0), (1, .int x1), (2, .long l2)] [] h Q) : wp SC 587 d s 57 [(0, .ref a0), (1, .int x1), (2, .long l2)] [.long ls0] h Q := by
  refine wp_cst (pc' := 60) (v := .long (-2000000001)) ⟨rfl, rfl⟩ rfl rfl rfl rfl rfl ?_
  refine wp_run 1 (pc' := 61) (lv' := [(0, .ref a0), (1, .int x1), (2, .long l2)]) (st' := [.int (lg_cmp ls0 (-2000000001))]) rfl ?_
  exact wp_if ⟨rfl, rfl⟩ rfl (fun hc => wp_weak (re_sb_at rfl (re_sb_at rfl (re_sb_at rfl (re_sb_nil _)))) (K1 (lc1_ne hc))) (fun hc => wp_weak (re_sb_at rfl (re_sb_at rfl (re_sb_at rfl (re_sb_nil _)))) (K2 (lc0_ne hc)))
set_option maxRecDepth 20000 in
theorem L587_64 {SC : List Value} {d s : Nat} {h : re_H} {Q : Nat → Value → re_H → Prop} {a0 : Nat} {x1 : Int32} {l2 : Int64}
    {s1 s2 : Nat} (hs : s1 + s2 ≤ s) (K : wp SC 579 d s1 0 [(0, .ref a0), (1, .int (i32 7)), (2, .int (-1)), (3, .int (i32 0))] [] h (wp_ret SC 587 (d + 1) s2 72 [(0, .ref a0), (1, .int x1), (2, .long l2)] [] Q)) : wp SC 587 (d + 1) s 64 [(0, .ref a0), (1, .int x1), (2, .long l2)] [] h Q := by
  refine wp_run 1 (pc' := 65) (lv' := [(0, .ref a0), (1, .int x1), (2, .long l2)]) (st' := [.ref a0]) rfl ?_
  refine wp_bi (x := (i32 7)) ⟨rfl, rfl⟩ (by decide) ?_
  refine wp_run 2 (pc' := 69) (lv' := [(0, .ref a0), (1, .int x1), (2, .long l2)]) (st' := [.int (i32 0), .int (-1), .int (i32 7), .ref a0]) rfl ?_
  have eA : lv_args 0 ([.int (i32 0), .int (-1), .int (i32 7), .ref a0].reverse) = [(0, .ref a0), (1, .int (i32 7)), (2, .int (-1)), (3, .int (i32 0))] := by simp [lv_args, vc_i, vc_l, vc_r, vc_n, vc_a]
  refine wp_callS (ar := [.int (i32 0), .int (-1), .int (i32 7), .ref a0]) (rest := []) (s1 := s1) (s2 := s2) (d' := d) ⟨rfl, rfl⟩ rfl (Or.inr (Or.inr rfl)) rfl (by simp [re_cat, vc_i, vc_l, vc_r, vc_n, vc_a]) (by rw [show re_cat ([.int (i32 0), .int (-1), .int (i32 7), .ref a0].reverse) = 4 from by simp [re_cat, vc_i, vc_l, vc_r, vc_n, vc_a]]; decide) (by decide) rfl rfl hs ?_
  rw [eA]
  exact wp_mono K (fun k v h' z => wp_ret_weak (re_sb_at rfl (re_sb_at rfl (re_sb_at rfl (re_sb_nil _)))) z)
set_option maxRecDepth 20000 in
theorem L587_72 {SC : List Value} {d s : Nat} {h : re_H} {Q : Nat → Value → re_H → Prop} {a0 : Nat} {x1 : Int32} {l2 : Int64} {ls0 : Int64}
    (K1 : ¬ ls0 = (-2000000001) → wp SC 587 d s 254 [(0, .ref a0), (1, .int x1), (2, .long l2)] [] h Q) (K2 : ls0 = (-2000000001) → wp SC 587 d s 79 [(0, .ref a0), (1, .int x1), (2, .long l2)] [] h Q) : wp SC 587 d s 72 [(0, .ref a0), (1, .int x1), (2, .long l2)] [.long ls0] h Q := by
  refine wp_cst (pc' := 75) (v := .long (-2000000001)) ⟨rfl, rfl⟩ rfl rfl rfl rfl rfl ?_
  refine wp_run 1 (pc' := 76) (lv' := [(0, .ref a0), (1, .int x1), (2, .long l2)]) (st' := [.int (lg_cmp ls0 (-2000000001))]) rfl ?_
  exact wp_if ⟨rfl, rfl⟩ rfl (fun hc => wp_weak (re_sb_at rfl (re_sb_at rfl (re_sb_at rfl (re_sb_nil _)))) (K1 (lc1_ne hc))) (fun hc => wp_weak (re_sb_at rfl (re_sb_at rfl (re_sb_at rfl (re_sb_nil _)))) (K2 (lc0_ne hc)))
set_option maxRecDepth 20000 in
theorem L587_79 {SC : List Value} {d s : Nat} {h : re_H} {Q : Nat → Value → re_H → Prop} {a0 : Nat} {x1 : Int32} {l2 : Int64}
    {s1 s2 : Nat} (hs : s1 + s2 ≤ s) (K : wp SC 579 d s1 0 [(0, .ref a0), (1, .int (i32 10)), (2, .int (-1)), (3, .int (i32 0))] [] h (wp_ret SC 587 (d + 1) s2 87 [(0, .ref a0), (1, .int x1), (2, .long l2)] [] Q)) : wp SC 587 (d + 1) s 79 [(0, .ref a0), (1, .int x1), (2, .long l2)] [] h Q := by
  refine wp_run 1 (pc' := 80) (lv' := [(0, .ref a0), (1, .int x1), (2, .long l2)]) (st' := [.ref a0]) rfl ?_
  refine wp_bi (x := (i32 10)) ⟨rfl, rfl⟩ (by decide) ?_
  refine wp_run 2 (pc' := 84) (lv' := [(0, .ref a0), (1, .int x1), (2, .long l2)]) (st' := [.int (i32 0), .int (-1), .int (i32 10), .ref a0]) rfl ?_
  have eA : lv_args 0 ([.int (i32 0), .int (-1), .int (i32 10), .ref a0].reverse) = [(0, .ref a0), (1, .int (i32 10)), (2, .int (-1)), (3, .int (i32 0))] := by simp [lv_args, vc_i, vc_l, vc_r, vc_n, vc_a]
  refine wp_callS (ar := [.int (i32 0), .int (-1), .int (i32 10), .ref a0]) (rest := []) (s1 := s1) (s2 := s2) (d' := d) ⟨rfl, rfl⟩ rfl (Or.inr (Or.inr rfl)) rfl (by simp [re_cat, vc_i, vc_l, vc_r, vc_n, vc_a]) (by rw [show re_cat ([.int (i32 0), .int (-1), .int (i32 10), .ref a0].reverse) = 4 from by simp [re_cat, vc_i, vc_l, vc_r, vc_n, vc_a]]; decide) (by decide) rfl rfl hs ?_
  rw [eA]
  exact wp_mono K (fun k v h' z => wp_ret_weak (re_sb_at rfl (re_sb_at rfl (re_sb_at rfl (re_sb_nil _)))) z)
set_option maxRecDepth 20000 in
theorem L587_87 {SC : List Value} {d s : Nat} {h : re_H} {Q : Nat → Value → re_H → Prop} {a0 : Nat} {x1 : Int32} {l2 : Int64} {ls0 : Int64}
    (K1 : ¬ ls0 = (-2000000001) → wp SC 587 d s 254 [(0, .ref a0), (1, .int x1), (2, .long l2)] [] h Q) (K2 : ls0 = (-2000000001) → wp SC 587 d s 94 [(0, .ref a0), (1, .int x1), (2, .long l2)] [] h Q) : wp SC 587 d s 87 [(0, .ref a0), (1, .int x1), (2, .long l2)] [.long ls0] h Q := by
  refine wp_cst (pc' := 90) (v := .long (-2000000001)) ⟨rfl, rfl⟩ rfl rfl rfl rfl rfl ?_
  refine wp_run 1 (pc' := 91) (lv' := [(0, .ref a0), (1, .int x1), (2, .long l2)]) (st' := [.int (lg_cmp ls0 (-2000000001))]) rfl ?_
  exact wp_if ⟨rfl, rfl⟩ rfl (fun hc => wp_weak (re_sb_at rfl (re_sb_at rfl (re_sb_at rfl (re_sb_nil _)))) (K1 (lc1_ne hc))) (fun hc => wp_weak (re_sb_at rfl (re_sb_at rfl (re_sb_at rfl (re_sb_nil _)))) (K2 (lc0_ne hc)))
set_option maxRecDepth 20000 in
theorem L587_94 {SC : List Value} {d s : Nat} {h : re_H} {Q : Nat → Value → re_H → Prop} {a0 : Nat} {x1 : Int32} {l2 : Int64}
    {s1 s2 : Nat} (hs : s1 + s2 ≤ s) (K : wp SC 579 d s1 0 [(0, .ref a0), (1, .int (i32 10)), (2, .int (i32 12)), (3, .int (i32 0))] [] h (wp_ret SC 587 (d + 1) s2 103 [(0, .ref a0), (1, .int x1), (2, .long l2)] [] Q)) : wp SC 587 (d + 1) s 94 [(0, .ref a0), (1, .int x1), (2, .long l2)] [] h Q := by
  refine wp_run 1 (pc' := 95) (lv' := [(0, .ref a0), (1, .int x1), (2, .long l2)]) (st' := [.ref a0]) rfl ?_
  refine wp_bi (x := (i32 10)) ⟨rfl, rfl⟩ (by decide) ?_
  refine wp_bi (x := (i32 12)) ⟨rfl, rfl⟩ (by decide) ?_
  refine wp_run 1 (pc' := 100) (lv' := [(0, .ref a0), (1, .int x1), (2, .long l2)]) (st' := [.int (i32 0), .int (i32 12), .int (i32 10), .ref a0]) rfl ?_
  have eA : lv_args 0 ([.int (i32 0), .int (i32 12), .int (i32 10), .ref a0].reverse) = [(0, .ref a0), (1, .int (i32 10)), (2, .int (i32 12)), (3, .int (i32 0))] := by simp [lv_args, vc_i, vc_l, vc_r, vc_n, vc_a]
  refine wp_callS (ar := [.int (i32 0), .int (i32 12), .int (i32 10), .ref a0]) (rest := []) (s1 := s1) (s2 := s2) (d' := d) ⟨rfl, rfl⟩ rfl (Or.inr (Or.inr rfl)) rfl (by simp [re_cat, vc_i, vc_l, vc_r, vc_n, vc_a]) (by rw [show re_cat ([.int (i32 0), .int (i32 12), .int (i32 10), .ref a0].reverse) = 4 from by simp [re_cat, vc_i, vc_l, vc_r, vc_n, vc_a]]; decide) (by decide) rfl rfl hs ?_
  rw [eA]
  exact wp_mono K (fun k v h' z => wp_ret_weak (re_sb_at rfl (re_sb_at rfl (re_sb_at rfl (re_sb_nil _)))) z)
set_option maxRecDepth 20000 in
theorem L587_103 {SC : List Value} {d s : Nat} {h : re_H} {Q : Nat → Value → re_H → Prop} {a0 : Nat} {x1 : Int32} {l2 : Int64} {ls0 : Int64}
    (K1 : ¬ ls0 = (-2000000001) → wp SC 587 d s 254 [(0, .ref a0), (1, .int x1), (2, .long l2)] [] h Q) (K2 : ls0 = (-2000000001) → wp SC 587 d s 110 [(0, .ref a0), (1, .int x1), (2, .long l2)] [] h Q) : wp SC 587 d s 103 [(0, .ref a0), (1, .int x1), (2, .long l2)] [.long ls0] h Q := by
  refine wp_cst (pc' := 106) (v := .long (-2000000001)) ⟨rfl, rfl⟩ rfl rfl rfl rfl rfl ?_
  refine wp_run 1 (pc' := 107) (lv' := [(0, .ref a0), (1, .int x1), (2, .long l2)]) (st' := [.int (lg_cmp ls0 (-2000000001))]) rfl ?_
  exact wp_if ⟨rfl, rfl⟩ rfl (fun hc => wp_weak (re_sb_at rfl (re_sb_at rfl (re_sb_at rfl (re_sb_nil _)))) (K1 (lc1_ne hc))) (fun hc => wp_weak (re_sb_at rfl (re_sb_at rfl (re_sb_at rfl (re_sb_nil _)))) (K2 (lc0_ne hc)))
set_option maxRecDepth 20000 in
theorem L587_110 {SC : List Value} {d s : Nat} {h : re_H} {Q : Nat → Value → re_H → Prop} {a0 : Nat} {x1 : Int32} {l2 : Int64}
    {s1 s2 : Nat} (hs : s1 + s2 ≤ s) (K : wp SC 579 d s1 0 [(0, .ref a0), (1, .int (i32 11)), (2, .int (i32 0)), (3, .int (i32 16))] [] h (wp_ret SC 587 (d + 1) s2 119 [(0, .ref a0), (1, .int x1), (2, .long l2)] [] Q)) : wp SC 587 (d + 1) s 110 [(0, .ref a0), (1, .int x1), (2, .long l2)] [] h Q := by
  refine wp_run 1 (pc' := 111) (lv' := [(0, .ref a0), (1, .int x1), (2, .long l2)]) (st' := [.ref a0]) rfl ?_
  refine wp_bi (x := (i32 11)) ⟨rfl, rfl⟩ (by decide) ?_
  refine wp_run 1 (pc' := 114) (lv' := [(0, .ref a0), (1, .int x1), (2, .long l2)]) (st' := [.int (i32 0), .int (i32 11), .ref a0]) rfl ?_
  refine wp_bi (x := (i32 16)) ⟨rfl, rfl⟩ (by decide) ?_
  have eA : lv_args 0 ([.int (i32 16), .int (i32 0), .int (i32 11), .ref a0].reverse) = [(0, .ref a0), (1, .int (i32 11)), (2, .int (i32 0)), (3, .int (i32 16))] := by simp [lv_args, vc_i, vc_l, vc_r, vc_n, vc_a]
  refine wp_callS (ar := [.int (i32 16), .int (i32 0), .int (i32 11), .ref a0]) (rest := []) (s1 := s1) (s2 := s2) (d' := d) ⟨rfl, rfl⟩ rfl (Or.inr (Or.inr rfl)) rfl (by simp [re_cat, vc_i, vc_l, vc_r, vc_n, vc_a]) (by rw [show re_cat ([.int (i32 16), .int (i32 0), .int (i32 11), .ref a0].reverse) = 4 from by simp [re_cat, vc_i, vc_l, vc_r, vc_n, vc_a]]; decide) (by decide) rfl rfl hs ?_
  rw [eA]
  exact wp_mono K (fun k v h' z => wp_ret_weak (re_sb_at rfl (re_sb_at rfl (re_sb_at rfl (re_sb_nil _)))) z)
set_option maxRecDepth 20000 in
theorem L587_119 {SC : List Value} {d s : Nat} {h : re_H} {Q : Nat → Value → re_H → Prop} {a0 : Nat} {x1 : Int32} {l2 : Int64} {ls0 : Int64}
    (K1 : ¬ ls0 = (-2000000001) → wp SC 587 d s 254 [(0, .ref a0), (1, .int x1), (2, .long l2)] [] h Q) (K2 : ls0 = (-2000000001) → wp SC 587 d s 126 [(0, .ref a0), (1, .int x1), (2, .long l2)] [] h Q) : wp SC 587 d s 119 [(0, .ref a0), (1, .int x1), (2, .long l2)] [.long ls0] h Q := by
  refine wp_cst (pc' := 122) (v := .long (-2000000001)) ⟨rfl, rfl⟩ rfl rfl rfl rfl rfl ?_
  refine wp_run 1 (pc' := 123) (lv' := [(0, .ref a0), (1, .int x1), (2, .long l2)]) (st' := [.int (lg_cmp ls0 (-2000000001))]) rfl ?_
  exact wp_if ⟨rfl, rfl⟩ rfl (fun hc => wp_weak (re_sb_at rfl (re_sb_at rfl (re_sb_at rfl (re_sb_nil _)))) (K1 (lc1_ne hc))) (fun hc => wp_weak (re_sb_at rfl (re_sb_at rfl (re_sb_at rfl (re_sb_nil _)))) (K2 (lc0_ne hc)))
set_option maxRecDepth 20000 in
theorem L587_126 {SC : List Value} {d s : Nat} {h : re_H} {Q : Nat → Value → re_H → Prop} {a0 : Nat} {x1 : Int32} {l2 : Int64}
    {s1 s2 : Nat} (hs : s1 + s2 ≤ s) (K : wp SC 579 d s1 0 [(0, .ref a0), (1, .int (i32 12)), (2, .int (-1)), (3, .int (i32 0))] [] h (wp_ret SC 587 (d + 1) s2 134 [(0, .ref a0), (1, .int x1), (2, .long l2)] [] Q)) : wp SC 587 (d + 1) s 126 [(0, .ref a0), (1, .int x1), (2, .long l2)] [] h Q := by
  refine wp_run 1 (pc' := 127) (lv' := [(0, .ref a0), (1, .int x1), (2, .long l2)]) (st' := [.ref a0]) rfl ?_
  refine wp_bi (x := (i32 12)) ⟨rfl, rfl⟩ (by decide) ?_
  refine wp_run 2 (pc' := 131) (lv' := [(0, .ref a0), (1, .int x1), (2, .long l2)]) (st' := [.int (i32 0), .int (-1), .int (i32 12), .ref a0]) rfl ?_
  have eA : lv_args 0 ([.int (i32 0), .int (-1), .int (i32 12), .ref a0].reverse) = [(0, .ref a0), (1, .int (i32 12)), (2, .int (-1)), (3, .int (i32 0))] := by simp [lv_args, vc_i, vc_l, vc_r, vc_n, vc_a]
  refine wp_callS (ar := [.int (i32 0), .int (-1), .int (i32 12), .ref a0]) (rest := []) (s1 := s1) (s2 := s2) (d' := d) ⟨rfl, rfl⟩ rfl (Or.inr (Or.inr rfl)) rfl (by simp [re_cat, vc_i, vc_l, vc_r, vc_n, vc_a]) (by rw [show re_cat ([.int (i32 0), .int (-1), .int (i32 12), .ref a0].reverse) = 4 from by simp [re_cat, vc_i, vc_l, vc_r, vc_n, vc_a]]; decide) (by decide) rfl rfl hs ?_
  rw [eA]
  exact wp_mono K (fun k v h' z => wp_ret_weak (re_sb_at rfl (re_sb_at rfl (re_sb_at rfl (re_sb_nil _)))) z)
set_option maxRecDepth 20000 in
theorem L587_134 {SC : List Value} {d s : Nat} {h : re_H} {Q : Nat → Value → re_H → Prop} {a0 : Nat} {x1 : Int32} {l2 : Int64} {ls0 : Int64}
    (K1 : ¬ ls0 = (-2000000001) → wp SC 587 d s 254 [(0, .ref a0), (1, .int x1), (2, .long l2)] [] h Q) (K2 : ls0 = (-2000000001) → wp SC 587 d s 141 [(0, .ref a0), (1, .int x1), (2, .long l2)] [] h Q) : wp SC 587 d s 134 [(0, .ref a0), (1, .int x1), (2, .long l2)] [.long ls0] h Q := by
  refine wp_cst (pc' := 137) (v := .long (-2000000001)) ⟨rfl, rfl⟩ rfl rfl rfl rfl rfl ?_
  refine wp_run 1 (pc' := 138) (lv' := [(0, .ref a0), (1, .int x1), (2, .long l2)]) (st' := [.int (lg_cmp ls0 (-2000000001))]) rfl ?_
  exact wp_if ⟨rfl, rfl⟩ rfl (fun hc => wp_weak (re_sb_at rfl (re_sb_at rfl (re_sb_at rfl (re_sb_nil _)))) (K1 (lc1_ne hc))) (fun hc => wp_weak (re_sb_at rfl (re_sb_at rfl (re_sb_at rfl (re_sb_nil _)))) (K2 (lc0_ne hc)))
set_option maxRecDepth 20000 in
theorem L587_141 {SC : List Value} {d s : Nat} {h : re_H} {Q : Nat → Value → re_H → Prop} {a0 : Nat} {x1 : Int32} {l2 : Int64}
    {s1 s2 : Nat} (hs : s1 + s2 ≤ s) (K : wp SC 579 d s1 0 [(0, .ref a0), (1, .int (i32 13)), (2, .int (-1)), (3, .int (i32 0))] [] h (wp_ret SC 587 (d + 1) s2 149 [(0, .ref a0), (1, .int x1), (2, .long l2)] [] Q)) : wp SC 587 (d + 1) s 141 [(0, .ref a0), (1, .int x1), (2, .long l2)] [] h Q := by
  refine wp_run 1 (pc' := 142) (lv' := [(0, .ref a0), (1, .int x1), (2, .long l2)]) (st' := [.ref a0]) rfl ?_
  refine wp_bi (x := (i32 13)) ⟨rfl, rfl⟩ (by decide) ?_
  refine wp_run 2 (pc' := 146) (lv' := [(0, .ref a0), (1, .int x1), (2, .long l2)]) (st' := [.int (i32 0), .int (-1), .int (i32 13), .ref a0]) rfl ?_
  have eA : lv_args 0 ([.int (i32 0), .int (-1), .int (i32 13), .ref a0].reverse) = [(0, .ref a0), (1, .int (i32 13)), (2, .int (-1)), (3, .int (i32 0))] := by simp [lv_args, vc_i, vc_l, vc_r, vc_n, vc_a]
  refine wp_callS (ar := [.int (i32 0), .int (-1), .int (i32 13), .ref a0]) (rest := []) (s1 := s1) (s2 := s2) (d' := d) ⟨rfl, rfl⟩ rfl (Or.inr (Or.inr rfl)) rfl (by simp [re_cat, vc_i, vc_l, vc_r, vc_n, vc_a]) (by rw [show re_cat ([.int (i32 0), .int (-1), .int (i32 13), .ref a0].reverse) = 4 from by simp [re_cat, vc_i, vc_l, vc_r, vc_n, vc_a]]; decide) (by decide) rfl rfl hs ?_
  rw [eA]
  exact wp_mono K (fun k v h' z => wp_ret_weak (re_sb_at rfl (re_sb_at rfl (re_sb_at rfl (re_sb_nil _)))) z)
set_option maxRecDepth 20000 in
theorem L587_149 {SC : List Value} {d s : Nat} {h : re_H} {Q : Nat → Value → re_H → Prop} {a0 : Nat} {x1 : Int32} {l2 : Int64} {ls0 : Int64}
    (K1 : ¬ ls0 = (-2000000001) → wp SC 587 d s 254 [(0, .ref a0), (1, .int x1), (2, .long l2)] [] h Q) (K2 : ls0 = (-2000000001) → wp SC 587 d s 156 [(0, .ref a0), (1, .int x1), (2, .long l2)] [] h Q) : wp SC 587 d s 149 [(0, .ref a0), (1, .int x1), (2, .long l2)] [.long ls0] h Q := by
  refine wp_cst (pc' := 152) (v := .long (-2000000001)) ⟨rfl, rfl⟩ rfl rfl rfl rfl rfl ?_
  refine wp_run 1 (pc' := 153) (lv' := [(0, .ref a0), (1, .int x1), (2, .long l2)]) (st' := [.int (lg_cmp ls0 (-2000000001))]) rfl ?_
  exact wp_if ⟨rfl, rfl⟩ rfl (fun hc => wp_weak (re_sb_at rfl (re_sb_at rfl (re_sb_at rfl (re_sb_nil _)))) (K1 (lc1_ne hc))) (fun hc => wp_weak (re_sb_at rfl (re_sb_at rfl (re_sb_at rfl (re_sb_nil _)))) (K2 (lc0_ne hc)))
set_option maxRecDepth 20000 in
theorem L587_156 {SC : List Value} {d s : Nat} {h : re_H} {Q : Nat → Value → re_H → Prop} {a0 : Nat} {x1 : Int32} {l2 : Int64}
    {s1 s2 : Nat} (hs : s1 + s2 ≤ s) (K : wp SC 579 d s1 0 [(0, .ref a0), (1, .int (i32 13)), (2, .int (i32 0)), (3, .int (i32 16))] [] h (wp_ret SC 587 (d + 1) s2 165 [(0, .ref a0), (1, .int x1), (2, .long l2)] [] Q)) : wp SC 587 (d + 1) s 156 [(0, .ref a0), (1, .int x1), (2, .long l2)] [] h Q := by
  refine wp_run 1 (pc' := 157) (lv' := [(0, .ref a0), (1, .int x1), (2, .long l2)]) (st' := [.ref a0]) rfl ?_
  refine wp_bi (x := (i32 13)) ⟨rfl, rfl⟩ (by decide) ?_
  refine wp_run 1 (pc' := 160) (lv' := [(0, .ref a0), (1, .int x1), (2, .long l2)]) (st' := [.int (i32 0), .int (i32 13), .ref a0]) rfl ?_
  refine wp_bi (x := (i32 16)) ⟨rfl, rfl⟩ (by decide) ?_
  have eA : lv_args 0 ([.int (i32 16), .int (i32 0), .int (i32 13), .ref a0].reverse) = [(0, .ref a0), (1, .int (i32 13)), (2, .int (i32 0)), (3, .int (i32 16))] := by simp [lv_args, vc_i, vc_l, vc_r, vc_n, vc_a]
  refine wp_callS (ar := [.int (i32 16), .int (i32 0), .int (i32 13), .ref a0]) (rest := []) (s1 := s1) (s2 := s2) (d' := d) ⟨rfl, rfl⟩ rfl (Or.inr (Or.inr rfl)) rfl (by simp [re_cat, vc_i, vc_l, vc_r, vc_n, vc_a]) (by rw [show re_cat ([.int (i32 16), .int (i32 0), .int (i32 13), .ref a0].reverse) = 4 from by simp [re_cat, vc_i, vc_l, vc_r, vc_n, vc_a]]; decide) (by decide) rfl rfl hs ?_
  rw [eA]
  exact wp_mono K (fun k v h' z => wp_ret_weak (re_sb_at rfl (re_sb_at rfl (re_sb_at rfl (re_sb_nil _)))) z)
set_option maxRecDepth 20000 in
theorem L587_165 {SC : List Value} {d s : Nat} {h : re_H} {Q : Nat → Value → re_H → Prop} {a0 : Nat} {x1 : Int32} {l2 : Int64} {ls0 : Int64}
    (K1 : ¬ ls0 = (-2000000001) → wp SC 587 d s 254 [(0, .ref a0), (1, .int x1), (2, .long l2)] [] h Q) (K2 : ls0 = (-2000000001) → wp SC 587 d s 172 [(0, .ref a0), (1, .int x1), (2, .long l2)] [] h Q) : wp SC 587 d s 165 [(0, .ref a0), (1, .int x1), (2, .long l2)] [.long ls0] h Q := by
  refine wp_cst (pc' := 168) (v := .long (-2000000001)) ⟨rfl, rfl⟩ rfl rfl rfl rfl rfl ?_
  refine wp_run 1 (pc' := 169) (lv' := [(0, .ref a0), (1, .int x1), (2, .long l2)]) (st' := [.int (lg_cmp ls0 (-2000000001))]) rfl ?_
  exact wp_if ⟨rfl, rfl⟩ rfl (fun hc => wp_weak (re_sb_at rfl (re_sb_at rfl (re_sb_at rfl (re_sb_nil _)))) (K1 (lc1_ne hc))) (fun hc => wp_weak (re_sb_at rfl (re_sb_at rfl (re_sb_at rfl (re_sb_nil _)))) (K2 (lc0_ne hc)))
set_option maxRecDepth 20000 in
theorem L587_172 {SC : List Value} {d s : Nat} {h : re_H} {Q : Nat → Value → re_H → Prop} {a0 : Nat} {x1 : Int32} {l2 : Int64}
    {s1 s2 : Nat} (hs : s1 + s2 ≤ s) (K : wp SC 579 d s1 0 [(0, .ref a0), (1, .int (i32 14)), (2, .int (-1)), (3, .int (i32 0))] [] h (wp_ret SC 587 (d + 1) s2 180 [(0, .ref a0), (1, .int x1), (2, .long l2)] [] Q)) : wp SC 587 (d + 1) s 172 [(0, .ref a0), (1, .int x1), (2, .long l2)] [] h Q := by
  refine wp_run 1 (pc' := 173) (lv' := [(0, .ref a0), (1, .int x1), (2, .long l2)]) (st' := [.ref a0]) rfl ?_
  refine wp_bi (x := (i32 14)) ⟨rfl, rfl⟩ (by decide) ?_
  refine wp_run 2 (pc' := 177) (lv' := [(0, .ref a0), (1, .int x1), (2, .long l2)]) (st' := [.int (i32 0), .int (-1), .int (i32 14), .ref a0]) rfl ?_
  have eA : lv_args 0 ([.int (i32 0), .int (-1), .int (i32 14), .ref a0].reverse) = [(0, .ref a0), (1, .int (i32 14)), (2, .int (-1)), (3, .int (i32 0))] := by simp [lv_args, vc_i, vc_l, vc_r, vc_n, vc_a]
  refine wp_callS (ar := [.int (i32 0), .int (-1), .int (i32 14), .ref a0]) (rest := []) (s1 := s1) (s2 := s2) (d' := d) ⟨rfl, rfl⟩ rfl (Or.inr (Or.inr rfl)) rfl (by simp [re_cat, vc_i, vc_l, vc_r, vc_n, vc_a]) (by rw [show re_cat ([.int (i32 0), .int (-1), .int (i32 14), .ref a0].reverse) = 4 from by simp [re_cat, vc_i, vc_l, vc_r, vc_n, vc_a]]; decide) (by decide) rfl rfl hs ?_
  rw [eA]
  exact wp_mono K (fun k v h' z => wp_ret_weak (re_sb_at rfl (re_sb_at rfl (re_sb_at rfl (re_sb_nil _)))) z)
set_option maxRecDepth 20000 in
theorem L587_180 {SC : List Value} {d s : Nat} {h : re_H} {Q : Nat → Value → re_H → Prop} {a0 : Nat} {x1 : Int32} {l2 : Int64} {ls0 : Int64}
    (K1 : ¬ ls0 = (-2000000001) → wp SC 587 d s 254 [(0, .ref a0), (1, .int x1), (2, .long l2)] [] h Q) (K2 : ls0 = (-2000000001) → wp SC 587 d s 187 [(0, .ref a0), (1, .int x1), (2, .long l2)] [] h Q) : wp SC 587 d s 180 [(0, .ref a0), (1, .int x1), (2, .long l2)] [.long ls0] h Q := by
  refine wp_cst (pc' := 183) (v := .long (-2000000001)) ⟨rfl, rfl⟩ rfl rfl rfl rfl rfl ?_
  refine wp_run 1 (pc' := 184) (lv' := [(0, .ref a0), (1, .int x1), (2, .long l2)]) (st' := [.int (lg_cmp ls0 (-2000000001))]) rfl ?_
  exact wp_if ⟨rfl, rfl⟩ rfl (fun hc => wp_weak (re_sb_at rfl (re_sb_at rfl (re_sb_at rfl (re_sb_nil _)))) (K1 (lc1_ne hc))) (fun hc => wp_weak (re_sb_at rfl (re_sb_at rfl (re_sb_at rfl (re_sb_nil _)))) (K2 (lc0_ne hc)))
set_option maxRecDepth 20000 in
theorem L587_187 {SC : List Value} {d s : Nat} {h : re_H} {Q : Nat → Value → re_H → Prop} {a0 : Nat} {x1 : Int32} {l2 : Int64}
    {s1 s2 : Nat} (hs : s1 + s2 ≤ s) (K : wp SC 579 d s1 0 [(0, .ref a0), (1, .int (i32 16)), (2, .int (-1)), (3, .int (i32 0))] [] h (wp_ret SC 587 (d + 1) s2 195 [(0, .ref a0), (1, .int x1), (2, .long l2)] [] Q)) : wp SC 587 (d + 1) s 187 [(0, .ref a0), (1, .int x1), (2, .long l2)] [] h Q := by
  refine wp_run 1 (pc' := 188) (lv' := [(0, .ref a0), (1, .int x1), (2, .long l2)]) (st' := [.ref a0]) rfl ?_
  refine wp_bi (x := (i32 16)) ⟨rfl, rfl⟩ (by decide) ?_
  refine wp_run 2 (pc' := 192) (lv' := [(0, .ref a0), (1, .int x1), (2, .long l2)]) (st' := [.int (i32 0), .int (-1), .int (i32 16), .ref a0]) rfl ?_
  have eA : lv_args 0 ([.int (i32 0), .int (-1), .int (i32 16), .ref a0].reverse) = [(0, .ref a0), (1, .int (i32 16)), (2, .int (-1)), (3, .int (i32 0))] := by simp [lv_args, vc_i, vc_l, vc_r, vc_n, vc_a]
  refine wp_callS (ar := [.int (i32 0), .int (-1), .int (i32 16), .ref a0]) (rest := []) (s1 := s1) (s2 := s2) (d' := d) ⟨rfl, rfl⟩ rfl (Or.inr (Or.inr rfl)) rfl (by simp [re_cat, vc_i, vc_l, vc_r, vc_n, vc_a]) (by rw [show re_cat ([.int (i32 0), .int (-1), .int (i32 16), .ref a0].reverse) = 4 from by simp [re_cat, vc_i, vc_l, vc_r, vc_n, vc_a]]; decide) (by decide) rfl rfl hs ?_
  rw [eA]
  exact wp_mono K (fun k v h' z => wp_ret_weak (re_sb_at rfl (re_sb_at rfl (re_sb_at rfl (re_sb_nil _)))) z)
set_option maxRecDepth 20000 in
theorem L587_195 {SC : List Value} {d s : Nat} {h : re_H} {Q : Nat → Value → re_H → Prop} {a0 : Nat} {x1 : Int32} {l2 : Int64} {ls0 : Int64}
    (K1 : ¬ ls0 = (-2000000002) → wp SC 587 d s 254 [(0, .ref a0), (1, .int x1), (2, .long l2)] [] h Q) (K2 : ls0 = (-2000000002) → wp SC 587 d s 202 [(0, .ref a0), (1, .int x1), (2, .long l2)] [] h Q) : wp SC 587 d s 195 [(0, .ref a0), (1, .int x1), (2, .long l2)] [.long ls0] h Q := by
  refine wp_cst (pc' := 198) (v := .long (-2000000002)) ⟨rfl, rfl⟩ rfl rfl rfl rfl rfl ?_
  refine wp_run 1 (pc' := 199) (lv' := [(0, .ref a0), (1, .int x1), (2, .long l2)]) (st' := [.int (lg_cmp ls0 (-2000000002))]) rfl ?_
  exact wp_if ⟨rfl, rfl⟩ rfl (fun hc => wp_weak (re_sb_at rfl (re_sb_at rfl (re_sb_at rfl (re_sb_nil _)))) (K1 (lc1_ne hc))) (fun hc => wp_weak (re_sb_at rfl (re_sb_at rfl (re_sb_at rfl (re_sb_nil _)))) (K2 (lc0_ne hc)))
set_option maxRecDepth 20000 in
theorem L587_202 {SC : List Value} {d s : Nat} {h : re_H} {Q : Nat → Value → re_H → Prop} {a0 : Nat} {x1 : Int32} {l2 : Int64}
    {s1 s2 : Nat} (hs : s1 + s2 ≤ s) (K : wp SC 579 d s1 0 [(0, .ref a0), (1, .int (i32 17)), (2, .int (i32 12)), (3, .int (i32 0))] [] h (wp_ret SC 587 (d + 1) s2 211 [(0, .ref a0), (1, .int x1), (2, .long l2)] [] Q)) : wp SC 587 (d + 1) s 202 [(0, .ref a0), (1, .int x1), (2, .long l2)] [] h Q := by
  refine wp_run 1 (pc' := 203) (lv' := [(0, .ref a0), (1, .int x1), (2, .long l2)]) (st' := [.ref a0]) rfl ?_
  refine wp_bi (x := (i32 17)) ⟨rfl, rfl⟩ (by decide) ?_
  refine wp_bi (x := (i32 12)) ⟨rfl, rfl⟩ (by decide) ?_
  refine wp_run 1 (pc' := 208) (lv' := [(0, .ref a0), (1, .int x1), (2, .long l2)]) (st' := [.int (i32 0), .int (i32 12), .int (i32 17), .ref a0]) rfl ?_
  have eA : lv_args 0 ([.int (i32 0), .int (i32 12), .int (i32 17), .ref a0].reverse) = [(0, .ref a0), (1, .int (i32 17)), (2, .int (i32 12)), (3, .int (i32 0))] := by simp [lv_args, vc_i, vc_l, vc_r, vc_n, vc_a]
  refine wp_callS (ar := [.int (i32 0), .int (i32 12), .int (i32 17), .ref a0]) (rest := []) (s1 := s1) (s2 := s2) (d' := d) ⟨rfl, rfl⟩ rfl (Or.inr (Or.inr rfl)) rfl (by simp [re_cat, vc_i, vc_l, vc_r, vc_n, vc_a]) (by rw [show re_cat ([.int (i32 0), .int (i32 12), .int (i32 17), .ref a0].reverse) = 4 from by simp [re_cat, vc_i, vc_l, vc_r, vc_n, vc_a]]; decide) (by decide) rfl rfl hs ?_
  rw [eA]
  exact wp_mono K (fun k v h' z => wp_ret_weak (re_sb_at rfl (re_sb_at rfl (re_sb_at rfl (re_sb_nil _)))) z)
set_option maxRecDepth 20000 in
theorem L587_211 {SC : List Value} {d s : Nat} {h : re_H} {Q : Nat → Value → re_H → Prop} {a0 : Nat} {x1 : Int32} {l2 : Int64} {ls0 : Int64}
    (K1 : ¬ ls0 = (-2000000001) → wp SC 587 d s 254 [(0, .ref a0), (1, .int x1), (2, .long l2)] [] h Q) (K2 : ls0 = (-2000000001) → wp SC 587 d s 218 [(0, .ref a0), (1, .int x1), (2, .long l2)] [] h Q) : wp SC 587 d s 211 [(0, .ref a0), (1, .int x1), (2, .long l2)] [.long ls0] h Q := by
  refine wp_cst (pc' := 214) (v := .long (-2000000001)) ⟨rfl, rfl⟩ rfl rfl rfl rfl rfl ?_
  refine wp_run 1 (pc' := 215) (lv' := [(0, .ref a0), (1, .int x1), (2, .long l2)]) (st' := [.int (lg_cmp ls0 (-2000000001))]) rfl ?_
  exact wp_if ⟨rfl, rfl⟩ rfl (fun hc => wp_weak (re_sb_at rfl (re_sb_at rfl (re_sb_at rfl (re_sb_nil _)))) (K1 (lc1_ne hc))) (fun hc => wp_weak (re_sb_at rfl (re_sb_at rfl (re_sb_at rfl (re_sb_nil _)))) (K2 (lc0_ne hc)))
set_option maxRecDepth 20000 in
theorem L587_218 {SC : List Value} {d s : Nat} {h : re_H} {Q : Nat → Value → re_H → Prop} {a0 : Nat} {x1 : Int32} {l2 : Int64}
    {s1 s2 : Nat} (hs : s1 + s2 ≤ s) (K : wp SC 579 d s1 0 [(0, .ref a0), (1, .int (i32 19)), (2, .int (i32 9)), (3, .int (i32 0))] [] h (wp_ret SC 587 (d + 1) s2 227 [(0, .ref a0), (1, .int x1), (2, .long l2)] [] Q)) : wp SC 587 (d + 1) s 218 [(0, .ref a0), (1, .int x1), (2, .long l2)] [] h Q := by
  refine wp_run 1 (pc' := 219) (lv' := [(0, .ref a0), (1, .int x1), (2, .long l2)]) (st' := [.ref a0]) rfl ?_
  refine wp_bi (x := (i32 19)) ⟨rfl, rfl⟩ (by decide) ?_
  refine wp_bi (x := (i32 9)) ⟨rfl, rfl⟩ (by decide) ?_
  refine wp_run 1 (pc' := 224) (lv' := [(0, .ref a0), (1, .int x1), (2, .long l2)]) (st' := [.int (i32 0), .int (i32 9), .int (i32 19), .ref a0]) rfl ?_
  have eA : lv_args 0 ([.int (i32 0), .int (i32 9), .int (i32 19), .ref a0].reverse) = [(0, .ref a0), (1, .int (i32 19)), (2, .int (i32 9)), (3, .int (i32 0))] := by simp [lv_args, vc_i, vc_l, vc_r, vc_n, vc_a]
  refine wp_callS (ar := [.int (i32 0), .int (i32 9), .int (i32 19), .ref a0]) (rest := []) (s1 := s1) (s2 := s2) (d' := d) ⟨rfl, rfl⟩ rfl (Or.inr (Or.inr rfl)) rfl (by simp [re_cat, vc_i, vc_l, vc_r, vc_n, vc_a]) (by rw [show re_cat ([.int (i32 0), .int (i32 9), .int (i32 19), .ref a0].reverse) = 4 from by simp [re_cat, vc_i, vc_l, vc_r, vc_n, vc_a]]; decide) (by decide) rfl rfl hs ?_
  rw [eA]
  exact wp_mono K (fun k v h' z => wp_ret_weak (re_sb_at rfl (re_sb_at rfl (re_sb_at rfl (re_sb_nil _)))) z)
set_option maxRecDepth 20000 in
theorem L587_227 {SC : List Value} {d s : Nat} {h : re_H} {Q : Nat → Value → re_H → Prop} {a0 : Nat} {x1 : Int32} {l2 : Int64} {ls0 : Int64}
    (K1 : ¬ ls0 = (-2000000001) → wp SC 587 d s 254 [(0, .ref a0), (1, .int x1), (2, .long l2)] [] h Q) (K2 : ls0 = (-2000000001) → wp SC 587 d s 234 [(0, .ref a0), (1, .int x1), (2, .long l2)] [] h Q) : wp SC 587 d s 227 [(0, .ref a0), (1, .int x1), (2, .long l2)] [.long ls0] h Q := by
  refine wp_cst (pc' := 230) (v := .long (-2000000001)) ⟨rfl, rfl⟩ rfl rfl rfl rfl rfl ?_
  refine wp_run 1 (pc' := 231) (lv' := [(0, .ref a0), (1, .int x1), (2, .long l2)]) (st' := [.int (lg_cmp ls0 (-2000000001))]) rfl ?_
  exact wp_if ⟨rfl, rfl⟩ rfl (fun hc => wp_weak (re_sb_at rfl (re_sb_at rfl (re_sb_at rfl (re_sb_nil _)))) (K1 (lc1_ne hc))) (fun hc => wp_weak (re_sb_at rfl (re_sb_at rfl (re_sb_at rfl (re_sb_nil _)))) (K2 (lc0_ne hc)))
set_option maxRecDepth 20000 in
theorem L587_234 {SC : List Value} {d s : Nat} {h : re_H} {Q : Nat → Value → re_H → Prop} {a0 : Nat} {x1 : Int32} {l2 : Int64}
    {s1 s2 : Nat} (hs : s1 + s2 ≤ s) (K : wp SC 579 d s1 0 [(0, .ref a0), (1, .int (i32 20)), (2, .int (i32 9)), (3, .int (i32 0))] [] h (wp_ret SC 587 (d + 1) s2 243 [(0, .ref a0), (1, .int x1), (2, .long l2)] [] Q)) : wp SC 587 (d + 1) s 234 [(0, .ref a0), (1, .int x1), (2, .long l2)] [] h Q := by
  refine wp_run 1 (pc' := 235) (lv' := [(0, .ref a0), (1, .int x1), (2, .long l2)]) (st' := [.ref a0]) rfl ?_
  refine wp_bi (x := (i32 20)) ⟨rfl, rfl⟩ (by decide) ?_
  refine wp_bi (x := (i32 9)) ⟨rfl, rfl⟩ (by decide) ?_
  refine wp_run 1 (pc' := 240) (lv' := [(0, .ref a0), (1, .int x1), (2, .long l2)]) (st' := [.int (i32 0), .int (i32 9), .int (i32 20), .ref a0]) rfl ?_
  have eA : lv_args 0 ([.int (i32 0), .int (i32 9), .int (i32 20), .ref a0].reverse) = [(0, .ref a0), (1, .int (i32 20)), (2, .int (i32 9)), (3, .int (i32 0))] := by simp [lv_args, vc_i, vc_l, vc_r, vc_n, vc_a]
  refine wp_callS (ar := [.int (i32 0), .int (i32 9), .int (i32 20), .ref a0]) (rest := []) (s1 := s1) (s2 := s2) (d' := d) ⟨rfl, rfl⟩ rfl (Or.inr (Or.inr rfl)) rfl (by simp [re_cat, vc_i, vc_l, vc_r, vc_n, vc_a]) (by rw [show re_cat ([.int (i32 0), .int (i32 9), .int (i32 20), .ref a0].reverse) = 4 from by simp [re_cat, vc_i, vc_l, vc_r, vc_n, vc_a]]; decide) (by decide) rfl rfl hs ?_
  rw [eA]
  exact wp_mono K (fun k v h' z => wp_ret_weak (re_sb_at rfl (re_sb_at rfl (re_sb_at rfl (re_sb_nil _)))) z)
set_option maxRecDepth 20000 in
theorem L587_243 {SC : List Value} {d s : Nat} {h : re_H} {Q : Nat → Value → re_H → Prop} {a0 : Nat} {x1 : Int32} {l2 : Int64} {ls0 : Int64}
    (K1 : ¬ ls0 = (-2000000001) → wp SC 587 d s 254 [(0, .ref a0), (1, .int x1), (2, .long l2)] [] h Q) (K2 : ls0 = (-2000000001) → wp SC 587 d s 250 [(0, .ref a0), (1, .int x1), (2, .long l2)] [] h Q) : wp SC 587 d s 243 [(0, .ref a0), (1, .int x1), (2, .long l2)] [.long ls0] h Q := by
  refine wp_cst (pc' := 246) (v := .long (-2000000001)) ⟨rfl, rfl⟩ rfl rfl rfl rfl rfl ?_
  refine wp_run 1 (pc' := 247) (lv' := [(0, .ref a0), (1, .int x1), (2, .long l2)]) (st' := [.int (lg_cmp ls0 (-2000000001))]) rfl ?_
  exact wp_if ⟨rfl, rfl⟩ rfl (fun hc => wp_weak (re_sb_at rfl (re_sb_at rfl (re_sb_at rfl (re_sb_nil _)))) (K1 (lc1_ne hc))) (fun hc => wp_weak (re_sb_at rfl (re_sb_at rfl (re_sb_at rfl (re_sb_nil _)))) (K2 (lc0_ne hc)))
set_option maxRecDepth 20000 in
theorem L587_250 {SC : List Value} {d s : Nat} {h : re_H} {Q : Nat → Value → re_H → Prop} {a0 : Nat} {x1 : Int32} {l2 : Int64}
    (K : wp SC 587 d s 255 [(0, .ref a0), (1, .int x1), (2, .long l2)] [.int (i32 1)] h Q) : wp SC 587 d s 250 [(0, .ref a0), (1, .int x1), (2, .long l2)] [] h Q := by
  refine wp_run 2 (pc' := 255) (lv' := [(0, .ref a0), (1, .int x1), (2, .long l2)]) (st' := [.int (i32 1)]) rfl ?_
  exact wp_weak (re_sb_at rfl (re_sb_at rfl (re_sb_at rfl (re_sb_nil _)))) K
set_option maxRecDepth 20000 in
theorem L587_254 {SC : List Value} {d s : Nat} {h : re_H} {Q : Nat → Value → re_H → Prop} {a0 : Nat} {x1 : Int32} {l2 : Int64}
    (K : wp SC 587 d s 255 [(0, .ref a0), (1, .int x1), (2, .long l2)] [.int (i32 0)] h Q) : wp SC 587 d s 254 [(0, .ref a0), (1, .int x1), (2, .long l2)] [] h Q := by
  refine wp_run 1 (pc' := 255) (lv' := [(0, .ref a0), (1, .int x1), (2, .long l2)]) (st' := [.int (i32 0)]) rfl ?_
  exact wp_weak (re_sb_at rfl (re_sb_at rfl (re_sb_at rfl (re_sb_nil _)))) K
set_option maxRecDepth 20000 in
theorem L587_255 {SC : List Value} {d s : Nat} {h : re_H} {Q : Nat → Value → re_H → Prop} {a0 : Nat} {x1 : Int32} {l2 : Int64} {xs0 : Int32}
    (K1 : xs0 = 0 → wp SC 587 d s 415 [] [] h Q) (K2 : ¬ xs0 = 0 → wp SC 587 d s 262 [(0, .ref a0), (1, .int x1), (2, .long l2)] [] h Q) : wp SC 587 d s 255 [(0, .ref a0), (1, .int x1), (2, .long l2)] [.int xs0] h Q := by
  refine wp_run 2 (pc' := 259) (lv' := [(4, .int xs0), (0, .ref a0), (1, .int x1), (2, .long l2)]) (st' := [.int xs0]) rfl ?_
  exact wp_if ⟨rfl, rfl⟩ rfl (fun hc => wp_weak (re_sb_nil _) (K1 (ic1_eq hc))) (fun hc => wp_weak (re_sb_at rfl (re_sb_at rfl (re_sb_at rfl (re_sb_nil _)))) (K2 (ic0_eq hc)))
set_option maxRecDepth 20000 in
theorem L587_262 {SC : List Value} {d s : Nat} {h : re_H} {Q : Nat → Value → re_H → Prop} {a0 : Nat} {x1 : Int32} {l2 : Int64}
    {s1 s2 : Nat} (hs : s1 + s2 ≤ s) (K : wp SC 579 d s1 0 [(0, .ref a0), (1, .int (i32 21)), (2, .int (-1)), (3, .int (i32 0))] [] h (wp_ret SC 587 (d + 1) s2 270 [(0, .ref a0), (1, .int x1), (2, .long l2)] [] Q)) : wp SC 587 (d + 1) s 262 [(0, .ref a0), (1, .int x1), (2, .long l2)] [] h Q := by
  refine wp_run 1 (pc' := 263) (lv' := [(0, .ref a0), (1, .int x1), (2, .long l2)]) (st' := [.ref a0]) rfl ?_
  refine wp_bi (x := (i32 21)) ⟨rfl, rfl⟩ (by decide) ?_
  refine wp_run 2 (pc' := 267) (lv' := [(0, .ref a0), (1, .int x1), (2, .long l2)]) (st' := [.int (i32 0), .int (-1), .int (i32 21), .ref a0]) rfl ?_
  have eA : lv_args 0 ([.int (i32 0), .int (-1), .int (i32 21), .ref a0].reverse) = [(0, .ref a0), (1, .int (i32 21)), (2, .int (-1)), (3, .int (i32 0))] := by simp [lv_args, vc_i, vc_l, vc_r, vc_n, vc_a]
  refine wp_callS (ar := [.int (i32 0), .int (-1), .int (i32 21), .ref a0]) (rest := []) (s1 := s1) (s2 := s2) (d' := d) ⟨rfl, rfl⟩ rfl (Or.inr (Or.inr rfl)) rfl (by simp [re_cat, vc_i, vc_l, vc_r, vc_n, vc_a]) (by rw [show re_cat ([.int (i32 0), .int (-1), .int (i32 21), .ref a0].reverse) = 4 from by simp [re_cat, vc_i, vc_l, vc_r, vc_n, vc_a]]; decide) (by decide) rfl rfl hs ?_
  rw [eA]
  exact wp_mono K (fun k v h' z => wp_ret_weak (re_sb_at rfl (re_sb_at rfl (re_sb_at rfl (re_sb_nil _)))) z)
set_option maxRecDepth 20000 in
theorem L587_270 {SC : List Value} {d s : Nat} {h : re_H} {Q : Nat → Value → re_H → Prop} {a0 : Nat} {x1 : Int32} {l2 : Int64} {ls0 : Int64}
    (K1 : ¬ ls0 = (-2000000001) → wp SC 587 d s 415 [] [] h Q) (K2 : ls0 = (-2000000001) → wp SC 587 d s 277 [(0, .ref a0), (1, .int x1), (2, .long l2)] [] h Q) : wp SC 587 d s 270 [(0, .ref a0), (1, .int x1), (2, .long l2)] [.long ls0] h Q := by
  refine wp_cst (pc' := 273) (v := .long (-2000000001)) ⟨rfl, rfl⟩ rfl rfl rfl rfl rfl ?_
  refine wp_run 1 (pc' := 274) (lv' := [(0, .ref a0), (1, .int x1), (2, .long l2)]) (st' := [.int (lg_cmp ls0 (-2000000001))]) rfl ?_
  exact wp_if ⟨rfl, rfl⟩ rfl (fun hc => wp_weak (re_sb_nil _) (K1 (lc1_ne hc))) (fun hc => wp_weak (re_sb_at rfl (re_sb_at rfl (re_sb_at rfl (re_sb_nil _)))) (K2 (lc0_ne hc)))
set_option maxRecDepth 20000 in
theorem L587_277 {SC : List Value} {d s : Nat} {h : re_H} {Q : Nat → Value → re_H → Prop} {a0 : Nat} {x1 : Int32} {l2 : Int64}
    {s1 s2 : Nat} (hs : s1 + s2 ≤ s) (K : wp SC 579 d s1 0 [(0, .ref a0), (1, .int (i32 22)), (2, .int (i32 12)), (3, .int (i32 0))] [] h (wp_ret SC 587 (d + 1) s2 286 [(0, .ref a0), (1, .int x1), (2, .long l2)] [] Q)) : wp SC 587 (d + 1) s 277 [(0, .ref a0), (1, .int x1), (2, .long l2)] [] h Q := by
  refine wp_run 1 (pc' := 278) (lv' := [(0, .ref a0), (1, .int x1), (2, .long l2)]) (st' := [.ref a0]) rfl ?_
  refine wp_bi (x := (i32 22)) ⟨rfl, rfl⟩ (by decide) ?_
  refine wp_bi (x := (i32 12)) ⟨rfl, rfl⟩ (by decide) ?_
  refine wp_run 1 (pc' := 283) (lv' := [(0, .ref a0), (1, .int x1), (2, .long l2)]) (st' := [.int (i32 0), .int (i32 12), .int (i32 22), .ref a0]) rfl ?_
  have eA : lv_args 0 ([.int (i32 0), .int (i32 12), .int (i32 22), .ref a0].reverse) = [(0, .ref a0), (1, .int (i32 22)), (2, .int (i32 12)), (3, .int (i32 0))] := by simp [lv_args, vc_i, vc_l, vc_r, vc_n, vc_a]
  refine wp_callS (ar := [.int (i32 0), .int (i32 12), .int (i32 22), .ref a0]) (rest := []) (s1 := s1) (s2 := s2) (d' := d) ⟨rfl, rfl⟩ rfl (Or.inr (Or.inr rfl)) rfl (by simp [re_cat, vc_i, vc_l, vc_r, vc_n, vc_a]) (by rw [show re_cat ([.int (i32 0), .int (i32 12), .int (i32 22), .ref a0].reverse) = 4 from by simp [re_cat, vc_i, vc_l, vc_r, vc_n, vc_a]]; decide) (by decide) rfl rfl hs ?_
  rw [eA]
  exact wp_mono K (fun k v h' z => wp_ret_weak (re_sb_at rfl (re_sb_at rfl (re_sb_at rfl (re_sb_nil _)))) z)
set_option maxRecDepth 20000 in
theorem L587_286 {SC : List Value} {d s : Nat} {h : re_H} {Q : Nat → Value → re_H → Prop} {a0 : Nat} {x1 : Int32} {l2 : Int64} {ls0 : Int64}
    (K1 : ¬ ls0 = (-2000000001) → wp SC 587 d s 415 [] [] h Q) (K2 : ls0 = (-2000000001) → wp SC 587 d s 293 [(0, .ref a0), (1, .int x1), (2, .long l2)] [] h Q) : wp SC 587 d s 286 [(0, .ref a0), (1, .int x1), (2, .long l2)] [.long ls0] h Q := by
  refine wp_cst (pc' := 289) (v := .long (-2000000001)) ⟨rfl, rfl⟩ rfl rfl rfl rfl rfl ?_
  refine wp_run 1 (pc' := 290) (lv' := [(0, .ref a0), (1, .int x1), (2, .long l2)]) (st' := [.int (lg_cmp ls0 (-2000000001))]) rfl ?_
  exact wp_if ⟨rfl, rfl⟩ rfl (fun hc => wp_weak (re_sb_nil _) (K1 (lc1_ne hc))) (fun hc => wp_weak (re_sb_at rfl (re_sb_at rfl (re_sb_at rfl (re_sb_nil _)))) (K2 (lc0_ne hc)))
set_option maxRecDepth 20000 in
theorem L587_293 {SC : List Value} {d s : Nat} {h : re_H} {Q : Nat → Value → re_H → Prop} {a0 : Nat} {x1 : Int32} {l2 : Int64}
    {s1 s2 : Nat} (hs : s1 + s2 ≤ s) (K : wp SC 579 d s1 0 [(0, .ref a0), (1, .int (i32 23)), (2, .int (-1)), (3, .int (i32 0))] [] h (wp_ret SC 587 (d + 1) s2 301 [(0, .ref a0), (1, .int x1), (2, .long l2)] [] Q)) : wp SC 587 (d + 1) s 293 [(0, .ref a0), (1, .int x1), (2, .long l2)] [] h Q := by
  refine wp_run 1 (pc' := 294) (lv' := [(0, .ref a0), (1, .int x1), (2, .long l2)]) (st' := [.ref a0]) rfl ?_
  refine wp_bi (x := (i32 23)) ⟨rfl, rfl⟩ (by decide) ?_
  refine wp_run 2 (pc' := 298) (lv' := [(0, .ref a0), (1, .int x1), (2, .long l2)]) (st' := [.int (i32 0), .int (-1), .int (i32 23), .ref a0]) rfl ?_
  have eA : lv_args 0 ([.int (i32 0), .int (-1), .int (i32 23), .ref a0].reverse) = [(0, .ref a0), (1, .int (i32 23)), (2, .int (-1)), (3, .int (i32 0))] := by simp [lv_args, vc_i, vc_l, vc_r, vc_n, vc_a]
  refine wp_callS (ar := [.int (i32 0), .int (-1), .int (i32 23), .ref a0]) (rest := []) (s1 := s1) (s2 := s2) (d' := d) ⟨rfl, rfl⟩ rfl (Or.inr (Or.inr rfl)) rfl (by simp [re_cat, vc_i, vc_l, vc_r, vc_n, vc_a]) (by rw [show re_cat ([.int (i32 0), .int (-1), .int (i32 23), .ref a0].reverse) = 4 from by simp [re_cat, vc_i, vc_l, vc_r, vc_n, vc_a]]; decide) (by decide) rfl rfl hs ?_
  rw [eA]
  exact wp_mono K (fun k v h' z => wp_ret_weak (re_sb_at rfl (re_sb_at rfl (re_sb_at rfl (re_sb_nil _)))) z)
set_option maxRecDepth 20000 in
theorem L587_301 {SC : List Value} {d s : Nat} {h : re_H} {Q : Nat → Value → re_H → Prop} {a0 : Nat} {x1 : Int32} {l2 : Int64} {ls0 : Int64}
    (K1 : ¬ ls0 = (-2000000001) → wp SC 587 d s 415 [] [] h Q) (K2 : ls0 = (-2000000001) → wp SC 587 d s 308 [(0, .ref a0), (1, .int x1), (2, .long l2)] [] h Q) : wp SC 587 d s 301 [(0, .ref a0), (1, .int x1), (2, .long l2)] [.long ls0] h Q := by
  refine wp_cst (pc' := 304) (v := .long (-2000000001)) ⟨rfl, rfl⟩ rfl rfl rfl rfl rfl ?_
  refine wp_run 1 (pc' := 305) (lv' := [(0, .ref a0), (1, .int x1), (2, .long l2)]) (st' := [.int (lg_cmp ls0 (-2000000001))]) rfl ?_
  exact wp_if ⟨rfl, rfl⟩ rfl (fun hc => wp_weak (re_sb_nil _) (K1 (lc1_ne hc))) (fun hc => wp_weak (re_sb_at rfl (re_sb_at rfl (re_sb_at rfl (re_sb_nil _)))) (K2 (lc0_ne hc)))
set_option maxRecDepth 20000 in
theorem L587_308 {SC : List Value} {d s : Nat} {h : re_H} {Q : Nat → Value → re_H → Prop} {a0 : Nat} {x1 : Int32} {l2 : Int64}
    {s1 s2 : Nat} (hs : s1 + s2 ≤ s) (K : wp SC 579 d s1 0 [(0, .ref a0), (1, .int (i32 24)), (2, .int (i32 12)), (3, .int (i32 0))] [] h (wp_ret SC 587 (d + 1) s2 317 [(0, .ref a0), (1, .int x1), (2, .long l2)] [] Q)) : wp SC 587 (d + 1) s 308 [(0, .ref a0), (1, .int x1), (2, .long l2)] [] h Q := by
  refine wp_run 1 (pc' := 309) (lv' := [(0, .ref a0), (1, .int x1), (2, .long l2)]) (st' := [.ref a0]) rfl ?_
  refine wp_bi (x := (i32 24)) ⟨rfl, rfl⟩ (by decide) ?_
  refine wp_bi (x := (i32 12)) ⟨rfl, rfl⟩ (by decide) ?_
  refine wp_run 1 (pc' := 314) (lv' := [(0, .ref a0), (1, .int x1), (2, .long l2)]) (st' := [.int (i32 0), .int (i32 12), .int (i32 24), .ref a0]) rfl ?_
  have eA : lv_args 0 ([.int (i32 0), .int (i32 12), .int (i32 24), .ref a0].reverse) = [(0, .ref a0), (1, .int (i32 24)), (2, .int (i32 12)), (3, .int (i32 0))] := by simp [lv_args, vc_i, vc_l, vc_r, vc_n, vc_a]
  refine wp_callS (ar := [.int (i32 0), .int (i32 12), .int (i32 24), .ref a0]) (rest := []) (s1 := s1) (s2 := s2) (d' := d) ⟨rfl, rfl⟩ rfl (Or.inr (Or.inr rfl)) rfl (by simp [re_cat, vc_i, vc_l, vc_r, vc_n, vc_a]) (by rw [show re_cat ([.int (i32 0), .int (i32 12), .int (i32 24), .ref a0].reverse) = 4 from by simp [re_cat, vc_i, vc_l, vc_r, vc_n, vc_a]]; decide) (by decide) rfl rfl hs ?_
  rw [eA]
  exact wp_mono K (fun k v h' z => wp_ret_weak (re_sb_at rfl (re_sb_at rfl (re_sb_at rfl (re_sb_nil _)))) z)
set_option maxRecDepth 20000 in
theorem L587_317 {SC : List Value} {d s : Nat} {h : re_H} {Q : Nat → Value → re_H → Prop} {a0 : Nat} {x1 : Int32} {l2 : Int64} {ls0 : Int64}
    (K1 : ¬ ls0 = (-2000000001) → wp SC 587 d s 415 [] [] h Q) (K2 : ls0 = (-2000000001) → wp SC 587 d s 324 [(0, .ref a0), (1, .int x1), (2, .long l2)] [] h Q) : wp SC 587 d s 317 [(0, .ref a0), (1, .int x1), (2, .long l2)] [.long ls0] h Q := by
  refine wp_cst (pc' := 320) (v := .long (-2000000001)) ⟨rfl, rfl⟩ rfl rfl rfl rfl rfl ?_
  refine wp_run 1 (pc' := 321) (lv' := [(0, .ref a0), (1, .int x1), (2, .long l2)]) (st' := [.int (lg_cmp ls0 (-2000000001))]) rfl ?_
  exact wp_if ⟨rfl, rfl⟩ rfl (fun hc => wp_weak (re_sb_nil _) (K1 (lc1_ne hc))) (fun hc => wp_weak (re_sb_at rfl (re_sb_at rfl (re_sb_at rfl (re_sb_nil _)))) (K2 (lc0_ne hc)))
set_option maxRecDepth 20000 in
theorem L587_324 {SC : List Value} {d s : Nat} {h : re_H} {Q : Nat → Value → re_H → Prop} {a0 : Nat} {x1 : Int32} {l2 : Int64}
    {s1 s2 : Nat} (hs : s1 + s2 ≤ s) (K : wp SC 579 d s1 0 [(0, .ref a0), (1, .int (i32 25)), (2, .int (-1)), (3, .int (i32 0))] [] h (wp_ret SC 587 (d + 1) s2 332 [(0, .ref a0), (1, .int x1), (2, .long l2)] [] Q)) : wp SC 587 (d + 1) s 324 [(0, .ref a0), (1, .int x1), (2, .long l2)] [] h Q := by
  refine wp_run 1 (pc' := 325) (lv' := [(0, .ref a0), (1, .int x1), (2, .long l2)]) (st' := [.ref a0]) rfl ?_
  refine wp_bi (x := (i32 25)) ⟨rfl, rfl⟩ (by decide) ?_
  refine wp_run 2 (pc' := 329) (lv' := [(0, .ref a0), (1, .int x1), (2, .long l2)]) (st' := [.int (i32 0), .int (-1), .int (i32 25), .ref a0]) rfl ?_
  have eA : lv_args 0 ([.int (i32 0), .int (-1), .int (i32 25), .ref a0].reverse) = [(0, .ref a0), (1, .int (i32 25)), (2, .int (-1)), (3, .int (i32 0))] := by simp [lv_args, vc_i, vc_l, vc_r, vc_n, vc_a]
  refine wp_callS (ar := [.int (i32 0), .int (-1), .int (i32 25), .ref a0]) (rest := []) (s1 := s1) (s2 := s2) (d' := d) ⟨rfl, rfl⟩ rfl (Or.inr (Or.inr rfl)) rfl (by simp [re_cat, vc_i, vc_l, vc_r, vc_n, vc_a]) (by rw [show re_cat ([.int (i32 0), .int (-1), .int (i32 25), .ref a0].reverse) = 4 from by simp [re_cat, vc_i, vc_l, vc_r, vc_n, vc_a]]; decide) (by decide) rfl rfl hs ?_
  rw [eA]
  exact wp_mono K (fun k v h' z => wp_ret_weak (re_sb_at rfl (re_sb_at rfl (re_sb_at rfl (re_sb_nil _)))) z)
set_option maxRecDepth 20000 in
theorem L587_332 {SC : List Value} {d s : Nat} {h : re_H} {Q : Nat → Value → re_H → Prop} {a0 : Nat} {x1 : Int32} {l2 : Int64} {ls0 : Int64}
    (K1 : ¬ ls0 = (-2000000001) → wp SC 587 d s 415 [] [] h Q) (K2 : ls0 = (-2000000001) → wp SC 587 d s 339 [(0, .ref a0), (1, .int x1), (2, .long l2)] [] h Q) : wp SC 587 d s 332 [(0, .ref a0), (1, .int x1), (2, .long l2)] [.long ls0] h Q := by
  refine wp_cst (pc' := 335) (v := .long (-2000000001)) ⟨rfl, rfl⟩ rfl rfl rfl rfl rfl ?_
  refine wp_run 1 (pc' := 336) (lv' := [(0, .ref a0), (1, .int x1), (2, .long l2)]) (st' := [.int (lg_cmp ls0 (-2000000001))]) rfl ?_
  exact wp_if ⟨rfl, rfl⟩ rfl (fun hc => wp_weak (re_sb_nil _) (K1 (lc1_ne hc))) (fun hc => wp_weak (re_sb_at rfl (re_sb_at rfl (re_sb_at rfl (re_sb_nil _)))) (K2 (lc0_ne hc)))
set_option maxRecDepth 20000 in
theorem L587_339 {SC : List Value} {d s : Nat} {h : re_H} {Q : Nat → Value → re_H → Prop} {a0 : Nat} {x1 : Int32} {l2 : Int64}
    {s1 s2 : Nat} (hs : s1 + s2 ≤ s) (K : wp SC 579 d s1 0 [(0, .ref a0), (1, .int (i32 26)), (2, .int (i32 12)), (3, .int (i32 0))] [] h (wp_ret SC 587 (d + 1) s2 348 [(0, .ref a0), (1, .int x1), (2, .long l2)] [] Q)) : wp SC 587 (d + 1) s 339 [(0, .ref a0), (1, .int x1), (2, .long l2)] [] h Q := by
  refine wp_run 1 (pc' := 340) (lv' := [(0, .ref a0), (1, .int x1), (2, .long l2)]) (st' := [.ref a0]) rfl ?_
  refine wp_bi (x := (i32 26)) ⟨rfl, rfl⟩ (by decide) ?_
  refine wp_bi (x := (i32 12)) ⟨rfl, rfl⟩ (by decide) ?_
  refine wp_run 1 (pc' := 345) (lv' := [(0, .ref a0), (1, .int x1), (2, .long l2)]) (st' := [.int (i32 0), .int (i32 12), .int (i32 26), .ref a0]) rfl ?_
  have eA : lv_args 0 ([.int (i32 0), .int (i32 12), .int (i32 26), .ref a0].reverse) = [(0, .ref a0), (1, .int (i32 26)), (2, .int (i32 12)), (3, .int (i32 0))] := by simp [lv_args, vc_i, vc_l, vc_r, vc_n, vc_a]
  refine wp_callS (ar := [.int (i32 0), .int (i32 12), .int (i32 26), .ref a0]) (rest := []) (s1 := s1) (s2 := s2) (d' := d) ⟨rfl, rfl⟩ rfl (Or.inr (Or.inr rfl)) rfl (by simp [re_cat, vc_i, vc_l, vc_r, vc_n, vc_a]) (by rw [show re_cat ([.int (i32 0), .int (i32 12), .int (i32 26), .ref a0].reverse) = 4 from by simp [re_cat, vc_i, vc_l, vc_r, vc_n, vc_a]]; decide) (by decide) rfl rfl hs ?_
  rw [eA]
  exact wp_mono K (fun k v h' z => wp_ret_weak (re_sb_at rfl (re_sb_at rfl (re_sb_at rfl (re_sb_nil _)))) z)
set_option maxRecDepth 20000 in
theorem L587_348 {SC : List Value} {d s : Nat} {h : re_H} {Q : Nat → Value → re_H → Prop} {a0 : Nat} {x1 : Int32} {l2 : Int64} {ls0 : Int64}
    (K1 : ¬ ls0 = (-2000000001) → wp SC 587 d s 415 [] [] h Q) (K2 : ls0 = (-2000000001) → wp SC 587 d s 355 [(0, .ref a0), (1, .int x1), (2, .long l2)] [] h Q) : wp SC 587 d s 348 [(0, .ref a0), (1, .int x1), (2, .long l2)] [.long ls0] h Q := by
  refine wp_cst (pc' := 351) (v := .long (-2000000001)) ⟨rfl, rfl⟩ rfl rfl rfl rfl rfl ?_
  refine wp_run 1 (pc' := 352) (lv' := [(0, .ref a0), (1, .int x1), (2, .long l2)]) (st' := [.int (lg_cmp ls0 (-2000000001))]) rfl ?_
  exact wp_if ⟨rfl, rfl⟩ rfl (fun hc => wp_weak (re_sb_nil _) (K1 (lc1_ne hc))) (fun hc => wp_weak (re_sb_at rfl (re_sb_at rfl (re_sb_at rfl (re_sb_nil _)))) (K2 (lc0_ne hc)))
set_option maxRecDepth 20000 in
theorem L587_355 {SC : List Value} {d s : Nat} {h : re_H} {Q : Nat → Value → re_H → Prop} {a0 : Nat} {x1 : Int32} {l2 : Int64}
    {s1 s2 : Nat} (hs : s1 + s2 ≤ s) (K : wp SC 579 d s1 0 [(0, .ref a0), (1, .int (i32 27)), (2, .int (-1)), (3, .int (i32 0))] [] h (wp_ret SC 587 (d + 1) s2 363 [(0, .ref a0), (1, .int x1), (2, .long l2)] [] Q)) : wp SC 587 (d + 1) s 355 [(0, .ref a0), (1, .int x1), (2, .long l2)] [] h Q := by
  refine wp_run 1 (pc' := 356) (lv' := [(0, .ref a0), (1, .int x1), (2, .long l2)]) (st' := [.ref a0]) rfl ?_
  refine wp_bi (x := (i32 27)) ⟨rfl, rfl⟩ (by decide) ?_
  refine wp_run 2 (pc' := 360) (lv' := [(0, .ref a0), (1, .int x1), (2, .long l2)]) (st' := [.int (i32 0), .int (-1), .int (i32 27), .ref a0]) rfl ?_
  have eA : lv_args 0 ([.int (i32 0), .int (-1), .int (i32 27), .ref a0].reverse) = [(0, .ref a0), (1, .int (i32 27)), (2, .int (-1)), (3, .int (i32 0))] := by simp [lv_args, vc_i, vc_l, vc_r, vc_n, vc_a]
  refine wp_callS (ar := [.int (i32 0), .int (-1), .int (i32 27), .ref a0]) (rest := []) (s1 := s1) (s2 := s2) (d' := d) ⟨rfl, rfl⟩ rfl (Or.inr (Or.inr rfl)) rfl (by simp [re_cat, vc_i, vc_l, vc_r, vc_n, vc_a]) (by rw [show re_cat ([.int (i32 0), .int (-1), .int (i32 27), .ref a0].reverse) = 4 from by simp [re_cat, vc_i, vc_l, vc_r, vc_n, vc_a]]; decide) (by decide) rfl rfl hs ?_
  rw [eA]
  exact wp_mono K (fun k v h' z => wp_ret_weak (re_sb_at rfl (re_sb_at rfl (re_sb_at rfl (re_sb_nil _)))) z)
set_option maxRecDepth 20000 in
theorem L587_363 {SC : List Value} {d s : Nat} {h : re_H} {Q : Nat → Value → re_H → Prop} {a0 : Nat} {x1 : Int32} {l2 : Int64} {ls0 : Int64}
    (K1 : ¬ ls0 = (-2000000001) → wp SC 587 d s 415 [] [] h Q) (K2 : ls0 = (-2000000001) → wp SC 587 d s 370 [(0, .ref a0), (1, .int x1), (2, .long l2)] [] h Q) : wp SC 587 d s 363 [(0, .ref a0), (1, .int x1), (2, .long l2)] [.long ls0] h Q := by
  refine wp_cst (pc' := 366) (v := .long (-2000000001)) ⟨rfl, rfl⟩ rfl rfl rfl rfl rfl ?_
  refine wp_run 1 (pc' := 367) (lv' := [(0, .ref a0), (1, .int x1), (2, .long l2)]) (st' := [.int (lg_cmp ls0 (-2000000001))]) rfl ?_
  exact wp_if ⟨rfl, rfl⟩ rfl (fun hc => wp_weak (re_sb_nil _) (K1 (lc1_ne hc))) (fun hc => wp_weak (re_sb_at rfl (re_sb_at rfl (re_sb_at rfl (re_sb_nil _)))) (K2 (lc0_ne hc)))
set_option maxRecDepth 20000 in
theorem L587_370 {SC : List Value} {d s : Nat} {h : re_H} {Q : Nat → Value → re_H → Prop} {a0 : Nat} {x1 : Int32} {l2 : Int64}
    {s1 s2 : Nat} (hs : s1 + s2 ≤ s) (K : wp SC 579 d s1 0 [(0, .ref a0), (1, .int (i32 28)), (2, .int (i32 12)), (3, .int (i32 0))] [] h (wp_ret SC 587 (d + 1) s2 379 [(0, .ref a0), (1, .int x1), (2, .long l2)] [] Q)) : wp SC 587 (d + 1) s 370 [(0, .ref a0), (1, .int x1), (2, .long l2)] [] h Q := by
  refine wp_run 1 (pc' := 371) (lv' := [(0, .ref a0), (1, .int x1), (2, .long l2)]) (st' := [.ref a0]) rfl ?_
  refine wp_bi (x := (i32 28)) ⟨rfl, rfl⟩ (by decide) ?_
  refine wp_bi (x := (i32 12)) ⟨rfl, rfl⟩ (by decide) ?_
  refine wp_run 1 (pc' := 376) (lv' := [(0, .ref a0), (1, .int x1), (2, .long l2)]) (st' := [.int (i32 0), .int (i32 12), .int (i32 28), .ref a0]) rfl ?_
  have eA : lv_args 0 ([.int (i32 0), .int (i32 12), .int (i32 28), .ref a0].reverse) = [(0, .ref a0), (1, .int (i32 28)), (2, .int (i32 12)), (3, .int (i32 0))] := by simp [lv_args, vc_i, vc_l, vc_r, vc_n, vc_a]
  refine wp_callS (ar := [.int (i32 0), .int (i32 12), .int (i32 28), .ref a0]) (rest := []) (s1 := s1) (s2 := s2) (d' := d) ⟨rfl, rfl⟩ rfl (Or.inr (Or.inr rfl)) rfl (by simp [re_cat, vc_i, vc_l, vc_r, vc_n, vc_a]) (by rw [show re_cat ([.int (i32 0), .int (i32 12), .int (i32 28), .ref a0].reverse) = 4 from by simp [re_cat, vc_i, vc_l, vc_r, vc_n, vc_a]]; decide) (by decide) rfl rfl hs ?_
  rw [eA]
  exact wp_mono K (fun k v h' z => wp_ret_weak (re_sb_at rfl (re_sb_at rfl (re_sb_at rfl (re_sb_nil _)))) z)
set_option maxRecDepth 20000 in
theorem L587_379 {SC : List Value} {d s : Nat} {h : re_H} {Q : Nat → Value → re_H → Prop} {a0 : Nat} {x1 : Int32} {l2 : Int64} {ls0 : Int64}
    (K1 : ¬ ls0 = (-2000000001) → wp SC 587 d s 415 [] [] h Q) (K2 : ls0 = (-2000000001) → wp SC 587 d s 386 [(0, .ref a0), (1, .int x1), (2, .long l2)] [] h Q) : wp SC 587 d s 379 [(0, .ref a0), (1, .int x1), (2, .long l2)] [.long ls0] h Q := by
  refine wp_cst (pc' := 382) (v := .long (-2000000001)) ⟨rfl, rfl⟩ rfl rfl rfl rfl rfl ?_
  refine wp_run 1 (pc' := 383) (lv' := [(0, .ref a0), (1, .int x1), (2, .long l2)]) (st' := [.int (lg_cmp ls0 (-2000000001))]) rfl ?_
  exact wp_if ⟨rfl, rfl⟩ rfl (fun hc => wp_weak (re_sb_nil _) (K1 (lc1_ne hc))) (fun hc => wp_weak (re_sb_at rfl (re_sb_at rfl (re_sb_at rfl (re_sb_nil _)))) (K2 (lc0_ne hc)))
set_option maxRecDepth 20000 in
theorem L587_386 {SC : List Value} {d s : Nat} {h : re_H} {Q : Nat → Value → re_H → Prop} {a0 : Nat} {x1 : Int32} {l2 : Int64}
    {s1 s2 : Nat} (hs : s1 + s2 ≤ s) (K : wp SC 579 d s1 0 [(0, .ref a0), (1, .int (i32 29)), (2, .int (-1)), (3, .int (i32 0))] [] h (wp_ret SC 587 (d + 1) s2 394 [(0, .ref a0), (1, .int x1), (2, .long l2)] [] Q)) : wp SC 587 (d + 1) s 386 [(0, .ref a0), (1, .int x1), (2, .long l2)] [] h Q := by
  refine wp_run 1 (pc' := 387) (lv' := [(0, .ref a0), (1, .int x1), (2, .long l2)]) (st' := [.ref a0]) rfl ?_
  refine wp_bi (x := (i32 29)) ⟨rfl, rfl⟩ (by decide) ?_
  refine wp_run 2 (pc' := 391) (lv' := [(0, .ref a0), (1, .int x1), (2, .long l2)]) (st' := [.int (i32 0), .int (-1), .int (i32 29), .ref a0]) rfl ?_
  have eA : lv_args 0 ([.int (i32 0), .int (-1), .int (i32 29), .ref a0].reverse) = [(0, .ref a0), (1, .int (i32 29)), (2, .int (-1)), (3, .int (i32 0))] := by simp [lv_args, vc_i, vc_l, vc_r, vc_n, vc_a]
  refine wp_callS (ar := [.int (i32 0), .int (-1), .int (i32 29), .ref a0]) (rest := []) (s1 := s1) (s2 := s2) (d' := d) ⟨rfl, rfl⟩ rfl (Or.inr (Or.inr rfl)) rfl (by simp [re_cat, vc_i, vc_l, vc_r, vc_n, vc_a]) (by rw [show re_cat ([.int (i32 0), .int (-1), .int (i32 29), .ref a0].reverse) = 4 from by simp [re_cat, vc_i, vc_l, vc_r, vc_n, vc_a]]; decide) (by decide) rfl rfl hs ?_
  rw [eA]
  exact wp_mono K (fun k v h' z => wp_ret_weak (re_sb_at rfl (re_sb_at rfl (re_sb_at rfl (re_sb_nil _)))) z)
set_option maxRecDepth 20000 in
theorem L587_394 {SC : List Value} {d s : Nat} {h : re_H} {Q : Nat → Value → re_H → Prop} {a0 : Nat} {x1 : Int32} {l2 : Int64} {ls0 : Int64}
    (K1 : ¬ ls0 = (-2000000001) → wp SC 587 d s 415 [] [] h Q) (K2 : ls0 = (-2000000001) → wp SC 587 d s 401 [(0, .ref a0), (1, .int x1), (2, .long l2)] [] h Q) : wp SC 587 d s 394 [(0, .ref a0), (1, .int x1), (2, .long l2)] [.long ls0] h Q := by
  refine wp_cst (pc' := 397) (v := .long (-2000000001)) ⟨rfl, rfl⟩ rfl rfl rfl rfl rfl ?_
  refine wp_run 1 (pc' := 398) (lv' := [(0, .ref a0), (1, .int x1), (2, .long l2)]) (st' := [.int (lg_cmp ls0 (-2000000001))]) rfl ?_
  exact wp_if ⟨rfl, rfl⟩ rfl (fun hc => wp_weak (re_sb_nil _) (K1 (lc1_ne hc))) (fun hc => wp_weak (re_sb_at rfl (re_sb_at rfl (re_sb_at rfl (re_sb_nil _)))) (K2 (lc0_ne hc)))
set_option maxRecDepth 20000 in
theorem L587_401 {SC : List Value} {d s : Nat} {h : re_H} {Q : Nat → Value → re_H → Prop} {a0 : Nat} {x1 : Int32} {l2 : Int64}
    {s1 s2 : Nat} (hs : s1 + s2 ≤ s) (K : wp SC 578 d s1 0 [(0, .ref a0), (1, .int x1)] [] h (wp_ret SC 587 (d + 1) s2 406 [(2, .long l2)] [] Q)) : wp SC 587 (d + 1) s 401 [(0, .ref a0), (1, .int x1), (2, .long l2)] [] h Q := by
  refine wp_run 2 (pc' := 403) (lv' := [(0, .ref a0), (1, .int x1), (2, .long l2)]) (st' := [.int x1, .ref a0]) rfl ?_
  have eA : lv_args 0 ([.int x1, .ref a0].reverse) = [(0, .ref a0), (1, .int x1)] := by simp [lv_args, vc_i, vc_l, vc_r, vc_n, vc_a]
  refine wp_callS (ar := [.int x1, .ref a0]) (rest := []) (s1 := s1) (s2 := s2) (d' := d) ⟨rfl, rfl⟩ rfl (Or.inl rfl) rfl (by simp [re_cat, vc_i, vc_l, vc_r, vc_n, vc_a]) (by rw [show re_cat ([.int x1, .ref a0].reverse) = 2 from by simp [re_cat, vc_i, vc_l, vc_r, vc_n, vc_a]]; decide) (by decide) rfl rfl hs ?_
  rw [eA]
  exact wp_mono K (fun k v h' z => wp_ret_weak (re_sb_at rfl (re_sb_nil _)) z)
set_option maxRecDepth 20000 in
theorem L587_406 {SC : List Value} {d s : Nat} {h : re_H} {Q : Nat → Value → re_H → Prop} {l2 : Int64} {ls0 : Int64}
    (K1 : ¬ ls0 = l2 → wp SC 587 d s 415 [] [] h Q) (K2 : ls0 = l2 → wp SC 587 d s 411 [] [] h Q) : wp SC 587 d s 406 [(2, .long l2)] [.long ls0] h Q := by
  refine wp_run 2 (pc' := 408) (lv' := [(2, .long l2)]) (st' := [.int (lg_cmp ls0 l2)]) rfl ?_
  exact wp_if ⟨rfl, rfl⟩ rfl (fun hc => wp_weak (re_sb_nil _) (K1 (lc1_ne hc))) (fun hc => wp_weak (re_sb_nil _) (K2 (lc0_ne hc)))
set_option maxRecDepth 20000 in
theorem L587_411 {SC : List Value} {d s : Nat} {h : re_H} {Q : Nat → Value → re_H → Prop} 
    (K : wp SC 587 d s 416 [] [.int (i32 1)] h Q) : wp SC 587 d s 411 [] [] h Q := by
  refine wp_run 2 (pc' := 416) (lv' := []) (st' := [.int (i32 1)]) rfl ?_
  exact wp_weak (re_sb_nil _) K
set_option maxRecDepth 20000 in
theorem L587_415 {SC : List Value} {d s : Nat} {h : re_H} {Q : Nat → Value → re_H → Prop} 
    (K : wp SC 587 d s 416 [] [.int (i32 0)] h Q) : wp SC 587 d s 415 [] [] h Q := by
  refine wp_run 1 (pc' := 416) (lv' := []) (st' := [.int (i32 0)]) rfl ?_
  exact wp_weak (re_sb_nil _) K
set_option maxRecDepth 20000 in
theorem L587_416 {SC : List Value} {d s : Nat} {h : re_H} {Q : Nat → Value → re_H → Prop} {xs0 : Int32}
    (hz : xs0 = 0 ∨ xs0 = 1) (K : Q 1 (.int xs0) h) : wp SC 587 d s 416 [] [.int xs0] h Q := by
  exact wp_retz ⟨rfl, rfl⟩ rfl hz K
set_option maxRecDepth 20000 in
theorem L588_0 {SC : List Value} {d s : Nat} {h : re_H} {Q : Nat → Value → re_H → Prop} {a0 : Nat}
    (K : wp SC 588 d s 3 [(0, .ref a0)] [.ref h.1] (re_hq h (0, [.null, .int 0, .null, .int 0, .null, .null, .null, .null, .int 0, .null, .int 0])) Q) : wp SC 588 d s 0 [(0, .ref a0)] [] h Q := by
  exact wp_new (vs := [.null, .int 0, .null, .int 0, .null, .null, .null, .null, .int 0, .null, .int 0]) ⟨rfl, rfl⟩ rfl (by decide) (by decide) (wp_weak (re_sb_at rfl (re_sb_nil _)) K)
set_option maxRecDepth 20000 in
theorem L588_3 {SC : List Value} {d s : Nat} {h : re_H} {Q : Nat → Value → re_H → Prop} {a0 : Nat} {as0 : Nat}
    {c : Nat} {w : List Value} (eg : re_hg h as0 = some (c, w)) (ec : c = 0) (K : wp SC 0 d 0 0 [(0, .ref as0)] [] h (wp_ret SC 588 (d + 1) s 7 [(0, .ref a0)] [.ref as0] Q)) : wp SC 588 (d + 1) s 3 [(0, .ref a0)] [.ref as0] h Q := by
  refine wp_run 1 (pc' := 4) (lv' := [(0, .ref a0)]) (st' := [.ref as0, .ref as0]) rfl ?_
  have eA : lv_args 0 (.ref as0 :: [].reverse) = [(0, .ref as0)] := by simp [lv_args, vc_i, vc_l, vc_r, vc_n, vc_a]
  refine wp_callI (ar := []) (rest := [.ref as0]) (s1 := 0) (s2 := s) (d' := d) ⟨rfl, rfl⟩ rfl (Or.inl rfl)  (by simp [re_cat, vc_i, vc_l, vc_r, vc_n, vc_a]) (by rw [show re_cat (.ref as0 :: [].reverse) = 1 from by simp [re_cat, vc_i, vc_l, vc_r, vc_n, vc_a]]; decide) (by decide) rfl eg ec rfl (Nat.le_of_eq (Nat.zero_add s)) ?_
  rw [eA]
  exact wp_mono K (fun k v h' z => wp_ret_weak (re_sb_at rfl (re_sb_nil _)) z)
set_option maxRecDepth 20000 in
theorem L588_7 {SC : List Value} {d s : Nat} {h : re_H} {Q : Nat → Value → re_H → Prop} {a0 : Nat} {as0 : Nat}
    (K : wp SC 588 d s 11 [(0, .ref a0), (1, .ref as0)] [.ref h.1] (re_hq h (0, [.null, .int 0, .null, .int 0, .null, .null, .null, .null, .int 0, .null, .int 0])) Q) : wp SC 588 d s 7 [(0, .ref a0)] [.ref as0] h Q := by
  refine wp_run 1 (pc' := 8) (lv' := [(1, .ref as0), (0, .ref a0)]) (st' := []) rfl ?_
  exact wp_new (vs := [.null, .int 0, .null, .int 0, .null, .null, .null, .null, .int 0, .null, .int 0]) ⟨rfl, rfl⟩ rfl (by decide) (by decide) (wp_weak (re_sb_at rfl (re_sb_at rfl (re_sb_nil _))) K)
set_option maxRecDepth 20000 in
theorem L588_11 {SC : List Value} {d s : Nat} {h : re_H} {Q : Nat → Value → re_H → Prop} {a0 : Nat} {a1 : Nat} {as0 : Nat}
    {c : Nat} {w : List Value} (eg : re_hg h as0 = some (c, w)) (ec : c = 0) (K : wp SC 0 d 0 0 [(0, .ref as0)] [] h (wp_ret SC 588 (d + 1) s 15 [(0, .ref a0), (1, .ref a1)] [.ref as0] Q)) : wp SC 588 (d + 1) s 11 [(0, .ref a0), (1, .ref a1)] [.ref as0] h Q := by
  refine wp_run 1 (pc' := 12) (lv' := [(0, .ref a0), (1, .ref a1)]) (st' := [.ref as0, .ref as0]) rfl ?_
  have eA : lv_args 0 (.ref as0 :: [].reverse) = [(0, .ref as0)] := by simp [lv_args, vc_i, vc_l, vc_r, vc_n, vc_a]
  refine wp_callI (ar := []) (rest := [.ref as0]) (s1 := 0) (s2 := s) (d' := d) ⟨rfl, rfl⟩ rfl (Or.inl rfl)  (by simp [re_cat, vc_i, vc_l, vc_r, vc_n, vc_a]) (by rw [show re_cat (.ref as0 :: [].reverse) = 1 from by simp [re_cat, vc_i, vc_l, vc_r, vc_n, vc_a]]; decide) (by decide) rfl eg ec rfl (Nat.le_of_eq (Nat.zero_add s)) ?_
  rw [eA]
  exact wp_mono K (fun k v h' z => wp_ret_weak (re_sb_at rfl (re_sb_at rfl (re_sb_nil _))) z)
set_option maxRecDepth 20000 in
theorem L588_15 {SC : List Value} {d s : Nat} {h : re_H} {Q : Nat → Value → re_H → Prop} {a0 : Nat} {a1 : Nat} {as0 : Nat}
    {s' i : Nat} (hx : (i32 5) = i32 i) (hn : i * 8 ≤ 536870912) (hs : i + 2 * s' ≤ 11 + 2 * s) (hs' : s' ≤ s) (K : wp SC 588 d s' 19 [(0, .ref a0), (1, .ref a1), (2, .ref as0)] [.ref h.1] (re_hq h (100, List.replicate i (.int 0))) Q) : wp SC 588 d s 15 [(0, .ref a0), (1, .ref a1)] [.ref as0] h Q := by
  refine wp_run 2 (pc' := 17) (lv' := [(2, .ref as0), (0, .ref a0), (1, .ref a1)]) (st' := [.int (i32 5)]) rfl ?_
  exact wp_na ⟨rfl, rfl⟩ hx hn (Or.inl ⟨rfl, rfl, rfl⟩) hs hs' (wp_weak (re_sb_at rfl (re_sb_at rfl (re_sb_at rfl (re_sb_nil _)))) K)
set_option maxRecDepth 20000 in
theorem L588_19 {SC : List Value} {d s : Nat} {h : re_H} {Q : Nat → Value → re_H → Prop} {a0 : Nat} {a1 : Nat} {a2 : Nat} {as0 : Nat}
    {s1 s2 : Nat} (hs : s1 + s2 ≤ s) (K : wp SC 587 d s1 0 [(0, .ref a1), (1, .int (i32 1))] [] h (wp_ret SC 588 (d + 1) s2 25 [(0, .ref a0), (1, .ref a1), (2, .ref a2), (3, .ref as0)] [] Q)) : wp SC 588 (d + 1) s 19 [(0, .ref a0), (1, .ref a1), (2, .ref a2)] [.ref as0] h Q := by
  refine wp_run 3 (pc' := 22) (lv' := [(3, .ref as0), (0, .ref a0), (1, .ref a1), (2, .ref a2)]) (st' := [.int (i32 1), .ref a1]) rfl ?_
  have eA : lv_args 0 ([.int (i32 1), .ref a1].reverse) = [(0, .ref a1), (1, .int (i32 1))] := by simp [lv_args, vc_i, vc_l, vc_r, vc_n, vc_a]
  refine wp_callS (ar := [.int (i32 1), .ref a1]) (rest := []) (s1 := s1) (s2 := s2) (d' := d) ⟨rfl, rfl⟩ rfl (Or.inl rfl) rfl (by simp [re_cat, vc_i, vc_l, vc_r, vc_n, vc_a]) (by rw [show re_cat ([.int (i32 1), .ref a1].reverse) = 2 from by simp [re_cat, vc_i, vc_l, vc_r, vc_n, vc_a]]; decide) (by decide) rfl rfl hs ?_
  rw [eA]
  exact wp_mono K (fun k v h' z => wp_ret_weak (re_sb_at rfl (re_sb_at rfl (re_sb_at rfl (re_sb_at rfl (re_sb_nil _))))) z)
set_option maxRecDepth 20000 in
theorem L588_25 {SC : List Value} {d s : Nat} {h : re_H} {Q : Nat → Value → re_H → Prop} {a0 : Nat} {a1 : Nat} {a2 : Nat} {a3 : Nat} {xs0 : Int32}
    (K : wp SC 588 d s 30 [(0, .ref a0), (1, .ref a1), (2, .ref a2), (3, .ref a3), (4, .int xs0), (5, .int (i32 0))] [] h Q) : wp SC 588 d s 25 [(0, .ref a0), (1, .ref a1), (2, .ref a2), (3, .ref a3)] [.int xs0] h Q := by
  refine wp_run 3 (pc' := 30) (lv' := [(5, .int (i32 0)), (4, .int xs0), (0, .ref a0), (1, .ref a1), (2, .ref a2), (3, .ref a3)]) (st' := []) rfl ?_
  exact wp_weak (re_sb_at rfl (re_sb_at rfl (re_sb_at rfl (re_sb_at rfl (re_sb_at rfl (re_sb_at rfl (re_sb_nil _))))))) K
set_option maxRecDepth 20000 in
theorem L588_30 {SC : List Value} {d s : Nat} {h : re_H} {Q : Nat → Value → re_H → Prop} {a0 : Nat} {a1 : Nat} {a2 : Nat} {a3 : Nat} {x4 : Int32} {x5 : Int32}
    (K1 : ¬ x5 < (i32 3) → wp SC 588 d s 77 [(0, .ref a0), (1, .ref a1), (2, .ref a2), (3, .ref a3), (4, .int x4)] [] h Q) (K2 : x5 < (i32 3) → wp SC 588 d s 36 [(0, .ref a0), (1, .ref a1), (2, .ref a2), (3, .ref a3), (4, .int x4), (5, .int x5)] [] h Q) : wp SC 588 d s 30 [(0, .ref a0), (1, .ref a1), (2, .ref a2), (3, .ref a3), (4, .int x4), (5, .int x5)] [] h Q := by
  refine wp_run 2 (pc' := 33) (lv' := [(0, .ref a0), (1, .ref a1), (2, .ref a2), (3, .ref a3), (4, .int x4), (5, .int x5)]) (st' := [.int (i32 3), .int x5]) rfl ?_
  exact wp_cmp ⟨rfl, rfl⟩ rfl (fun hc => wp_weak (re_sb_at rfl (re_sb_at rfl (re_sb_at rfl (re_sb_at rfl (re_sb_at rfl (re_sb_nil _)))))) (K1 (ic1_ge hc))) (fun hc => wp_weak (re_sb_at rfl (re_sb_at rfl (re_sb_at rfl (re_sb_at rfl (re_sb_at rfl (re_sb_at rfl (re_sb_nil _))))))) (K2 (ic0_ge hc)))
set_option maxRecDepth 20000 in
theorem L588_36 {SC : List Value} {d s : Nat} {h : re_H} {Q : Nat → Value → re_H → Prop} {a0 : Nat} {a1 : Nat} {a2 : Nat} {a3 : Nat} {x4 : Int32} {x5 : Int32}
    (K1 : x4 = 0 → wp SC 588 d s 77 [(0, .ref a0), (1, .ref a1), (2, .ref a2), (3, .ref a3), (4, .int x4)] [] h Q) (K2 : ¬ x4 = 0 → wp SC 588 d s 41 [(0, .ref a0), (1, .ref a1), (2, .ref a2), (3, .ref a3), (5, .int x5)] [] h Q) : wp SC 588 d s 36 [(0, .ref a0), (1, .ref a1), (2, .ref a2), (3, .ref a3), (4, .int x4), (5, .int x5)] [] h Q := by
  refine wp_run 1 (pc' := 38) (lv' := [(0, .ref a0), (1, .ref a1), (2, .ref a2), (3, .ref a3), (4, .int x4), (5, .int x5)]) (st' := [.int x4]) rfl ?_
  exact wp_if ⟨rfl, rfl⟩ rfl (fun hc => wp_weak (re_sb_at rfl (re_sb_at rfl (re_sb_at rfl (re_sb_at rfl (re_sb_at rfl (re_sb_nil _)))))) (K1 (ic1_eq hc))) (fun hc => wp_weak (re_sb_at rfl (re_sb_at rfl (re_sb_at rfl (re_sb_at rfl (re_sb_at rfl (re_sb_nil _)))))) (K2 (ic0_eq hc)))
set_option maxRecDepth 20000 in
theorem L588_41 {SC : List Value} {d s : Nat} {h : re_H} {Q : Nat → Value → re_H → Prop} {a0 : Nat} {a1 : Nat} {a2 : Nat} {a3 : Nat} {x5 : Int32}
    {s1 s2 : Nat} (hs : s1 + s2 ≤ s) (K : wp SC 581 d s1 0 [(0, .ref a1), (1, .ref a2), (2, .int (i32 9)), (3, .int (i32 0)), (4, .int (i32 0))] [] h (wp_ret SC 588 (d + 1) s2 50 [(0, .ref a0), (1, .ref a1), (2, .ref a2), (3, .ref a3), (5, .int x5)] [] Q)) : wp SC 588 (d + 1) s 41 [(0, .ref a0), (1, .ref a1), (2, .ref a2), (3, .ref a3), (5, .int x5)] [] h Q := by
  refine wp_run 2 (pc' := 43) (lv' := [(0, .ref a0), (1, .ref a1), (2, .ref a2), (3, .ref a3), (5, .int x5)]) (st' := [.ref a2, .ref a1]) rfl ?_
  refine wp_bi (x := (i32 9)) ⟨rfl, rfl⟩ (by decide) ?_
  refine wp_run 2 (pc' := 47) (lv' := [(0, .ref a0), (1, .ref a1), (2, .ref a2), (3, .ref a3), (5, .int x5)]) (st' := [.int (i32 0), .int (i32 0), .int (i32 9), .ref a2, .ref a1]) rfl ?_
  have eA : lv_args 0 ([.int (i32 0), .int (i32 0), .int (i32 9), .ref a2, .ref a1].reverse) = [(0, .ref a1), (1, .ref a2), (2, .int (i32 9)), (3, .int (i32 0)), (4, .int (i32 0))] := by simp [lv_args, vc_i, vc_l, vc_r, vc_n, vc_a]
  refine wp_callS (ar := [.int (i32 0), .int (i32 0), .int (i32 9), .ref a2, .ref a1]) (rest := []) (s1 := s1) (s2 := s2) (d' := d) ⟨rfl, rfl⟩ rfl (Or.inl rfl) rfl (by simp [re_cat, vc_i, vc_l, vc_r, vc_n, vc_a]) (by rw [show re_cat ([.int (i32 0), .int (i32 0), .int (i32 9), .ref a2, .ref a1].reverse) = 5 from by simp [re_cat, vc_i, vc_l, vc_r, vc_n, vc_a]]; decide) (by decide) rfl rfl hs ?_
  rw [eA]
  exact wp_mono K (fun k v h' z => wp_ret_weak (re_sb_at rfl (re_sb_at rfl (re_sb_at rfl (re_sb_at rfl (re_sb_at rfl (re_sb_nil _)))))) z)
set_option maxRecDepth 20000 in
theorem L588_50 {SC : List Value} {d s : Nat} {h : re_H} {Q : Nat → Value → re_H → Prop} {a0 : Nat} {a1 : Nat} {a2 : Nat} {a3 : Nat} {x5 : Int32} {ls0 : Int64}
    (K1 : ¬ ls0 = x5.toInt64 → wp SC 588 d s 61 [(0, .ref a0), (1, .ref a1), (2, .ref a2), (3, .ref a3), (5, .int x5)] [] h Q) (K2 : ls0 = x5.toInt64 → wp SC 588 d s 57 [(0, .ref a0), (1, .ref a1), (2, .ref a2), (3, .ref a3), (5, .int x5)] [] h Q) : wp SC 588 d s 50 [(0, .ref a0), (1, .ref a1), (2, .ref a2), (3, .ref a3), (5, .int x5)] [.long ls0] h Q := by
  refine wp_run 3 (pc' := 54) (lv' := [(0, .ref a0), (1, .ref a1), (2, .ref a2), (3, .ref a3), (5, .int x5)]) (st' := [.int (lg_cmp ls0 x5.toInt64)]) rfl ?_
  exact wp_if ⟨rfl, rfl⟩ rfl (fun hc => wp_weak (re_sb_at rfl (re_sb_at rfl (re_sb_at rfl (re_sb_at rfl (re_sb_at rfl (re_sb_nil _)))))) (K1 (lc1_ne hc))) (fun hc => wp_weak (re_sb_at rfl (re_sb_at rfl (re_sb_at rfl (re_sb_at rfl (re_sb_at rfl (re_sb_nil _)))))) (K2 (lc0_ne hc)))
set_option maxRecDepth 20000 in
theorem L588_57 {SC : List Value} {d s : Nat} {h : re_H} {Q : Nat → Value → re_H → Prop} {a0 : Nat} {a1 : Nat} {a2 : Nat} {a3 : Nat} {x5 : Int32}
    (K : wp SC 588 d s 62 [(0, .ref a0), (1, .ref a1), (2, .ref a2), (3, .ref a3), (5, .int x5)] [.int (i32 1)] h Q) : wp SC 588 d s 57 [(0, .ref a0), (1, .ref a1), (2, .ref a2), (3, .ref a3), (5, .int x5)] [] h Q := by
  refine wp_run 2 (pc' := 62) (lv' := [(0, .ref a0), (1, .ref a1), (2, .ref a2), (3, .ref a3), (5, .int x5)]) (st' := [.int (i32 1)]) rfl ?_
  exact wp_weak (re_sb_at rfl (re_sb_at rfl (re_sb_at rfl (re_sb_at rfl (re_sb_at rfl (re_sb_nil _)))))) K
set_option maxRecDepth 20000 in
theorem L588_61 {SC : List Value} {d s : Nat} {h : re_H} {Q : Nat → Value → re_H → Prop} {a0 : Nat} {a1 : Nat} {a2 : Nat} {a3 : Nat} {x5 : Int32}
    (K : wp SC 588 d s 62 [(0, .ref a0), (1, .ref a1), (2, .ref a2), (3, .ref a3), (5, .int x5)] [.int (i32 0)] h Q) : wp SC 588 d s 61 [(0, .ref a0), (1, .ref a1), (2, .ref a2), (3, .ref a3), (5, .int x5)] [] h Q := by
  refine wp_run 1 (pc' := 62) (lv' := [(0, .ref a0), (1, .ref a1), (2, .ref a2), (3, .ref a3), (5, .int x5)]) (st' := [.int (i32 0)]) rfl ?_
  exact wp_weak (re_sb_at rfl (re_sb_at rfl (re_sb_at rfl (re_sb_at rfl (re_sb_at rfl (re_sb_nil _)))))) K
set_option maxRecDepth 20000 in
theorem L588_62 {SC : List Value} {d s : Nat} {h : re_H} {Q : Nat → Value → re_H → Prop} {a0 : Nat} {a1 : Nat} {a2 : Nat} {a3 : Nat} {x5 : Int32} {xs0 : Int32}
    {xe1 : Int32} (e2 : nb_ar h a3 100 (i32 1) (.int xe1)) {w : List Value} {i : Nat} (e : re_hg h a3 = some (100, w)) (hx : (i32 1) = i32 i) (hi : i < 2147483648) (hl : i < w.length) (K : wp SC 588 d s 71 [(0, .ref a0), (1, .ref a1), (2, .ref a2), (3, .ref a3), (4, .int xs0), (5, .int x5)] [] (re_hw h a3 (100, w.set i (.int (xe1 + (i32 1))))) Q) : wp SC 588 d s 62 [(0, .ref a0), (1, .ref a1), (2, .ref a2), (3, .ref a3), (5, .int x5)] [.int xs0] h Q := by
  refine wp_run 4 (pc' := 67) (lv' := [(4, .int xs0), (0, .ref a0), (1, .ref a1), (2, .ref a2), (3, .ref a3), (5, .int x5)]) (st' := [.int (i32 1), .ref a3, .int (i32 1), .ref a3]) rfl ?_
  obtain ⟨w2, i2, e2a, e2x, e2i, e2v⟩ := e2
  refine wp_ial ⟨rfl, rfl⟩ e2a rfl e2x e2i e2v ?_
  refine wp_run 2 (pc' := 70) (lv' := [(4, .int xs0), (0, .ref a0), (1, .ref a1), (2, .ref a2), (3, .ref a3), (5, .int x5)]) (st' := [.int (xe1 + (i32 1)), .int (i32 1), .ref a3]) rfl ?_
  exact wp_ias ⟨rfl, rfl⟩ e rfl hx hi hl (wp_weak (re_sb_at rfl (re_sb_at rfl (re_sb_at rfl (re_sb_at rfl (re_sb_at rfl (re_sb_at rfl (re_sb_nil _))))))) K)
set_option maxRecDepth 20000 in
theorem L588_71 {SC : List Value} {d s : Nat} {h : re_H} {Q : Nat → Value → re_H → Prop} {a0 : Nat} {a1 : Nat} {a2 : Nat} {a3 : Nat} {x4 : Int32} {x5 : Int32}
    (K : wp SC 588 d s 30 [(0, .ref a0), (1, .ref a1), (2, .ref a2), (3, .ref a3), (4, .int x4), (5, .int (x5 + (i32 1)))] [] h Q) : wp SC 588 d s 71 [(0, .ref a0), (1, .ref a1), (2, .ref a2), (3, .ref a3), (4, .int x4), (5, .int x5)] [] h Q := by
  refine wp_run 2 (pc' := 30) (lv' := [(5, .int (x5 + (i32 1))), (0, .ref a0), (1, .ref a1), (2, .ref a2), (3, .ref a3), (4, .int x4)]) (st' := []) rfl ?_
  exact wp_weak (re_sb_at rfl (re_sb_at rfl (re_sb_at rfl (re_sb_at rfl (re_sb_at rfl (re_sb_at rfl (re_sb_nil _))))))) K
set_option maxRecDepth 20000 in
theorem L588_77 {SC : List Value} {d s : Nat} {h : re_H} {Q : Nat → Value → re_H → Prop} {a0 : Nat} {a1 : Nat} {a2 : Nat} {a3 : Nat} {x4 : Int32}
    (K : wp SC 588 d s 80 [(0, .ref a0), (1, .ref a1), (2, .ref a2), (3, .ref a3), (4, .int x4), (5, .int (i32 0))] [] h Q) : wp SC 588 d s 77 [(0, .ref a0), (1, .ref a1), (2, .ref a2), (3, .ref a3), (4, .int x4)] [] h Q := by
  refine wp_run 2 (pc' := 80) (lv' := [(5, .int (i32 0)), (0, .ref a0), (1, .ref a1), (2, .ref a2), (3, .ref a3), (4, .int x4)]) (st' := []) rfl ?_
  exact wp_weak (re_sb_at rfl (re_sb_at rfl (re_sb_at rfl (re_sb_at rfl (re_sb_at rfl (re_sb_at rfl (re_sb_nil _))))))) K
set_option maxRecDepth 20000 in
theorem L588_80 {SC : List Value} {d s : Nat} {h : re_H} {Q : Nat → Value → re_H → Prop} {a0 : Nat} {a1 : Nat} {a2 : Nat} {a3 : Nat} {x4 : Int32} {x5 : Int32}
    (K1 : ¬ x5 < (i32 80) → wp SC 588 d s 259 [(1, .ref a1), (2, .ref a2), (3, .ref a3), (4, .int x4)] [] h Q) (K2 : x5 < (i32 80) → wp SC 588 d s 87 [(0, .ref a0), (1, .ref a1), (2, .ref a2), (3, .ref a3), (4, .int x4), (5, .int x5)] [] h Q) : wp SC 588 d s 80 [(0, .ref a0), (1, .ref a1), (2, .ref a2), (3, .ref a3), (4, .int x4), (5, .int x5)] [] h Q := by
  refine wp_run 1 (pc' := 82) (lv' := [(0, .ref a0), (1, .ref a1), (2, .ref a2), (3, .ref a3), (4, .int x4), (5, .int x5)]) (st' := [.int x5]) rfl ?_
  refine wp_bi (x := (i32 80)) ⟨rfl, rfl⟩ (by decide) ?_
  exact wp_cmp ⟨rfl, rfl⟩ rfl (fun hc => wp_weak (re_sb_at rfl (re_sb_at rfl (re_sb_at rfl (re_sb_at rfl (re_sb_nil _))))) (K1 (ic1_ge hc))) (fun hc => wp_weak (re_sb_at rfl (re_sb_at rfl (re_sb_at rfl (re_sb_at rfl (re_sb_at rfl (re_sb_at rfl (re_sb_nil _))))))) (K2 (ic0_ge hc)))
set_option maxRecDepth 20000 in
theorem L588_87 {SC : List Value} {d s : Nat} {h : re_H} {Q : Nat → Value → re_H → Prop} {a0 : Nat} {a1 : Nat} {a2 : Nat} {a3 : Nat} {x4 : Int32} {x5 : Int32}
    (K1 : x4 = 0 → wp SC 588 d s 259 [(1, .ref a1), (2, .ref a2), (3, .ref a3), (4, .int x4)] [] h Q) (K2 : ¬ x4 = 0 → wp SC 588 d s 92 [(0, .ref a0), (1, .ref a1), (2, .ref a2), (3, .ref a3), (5, .int x5)] [] h Q) : wp SC 588 d s 87 [(0, .ref a0), (1, .ref a1), (2, .ref a2), (3, .ref a3), (4, .int x4), (5, .int x5)] [] h Q := by
  refine wp_run 1 (pc' := 89) (lv' := [(0, .ref a0), (1, .ref a1), (2, .ref a2), (3, .ref a3), (4, .int x4), (5, .int x5)]) (st' := [.int x4]) rfl ?_
  exact wp_if ⟨rfl, rfl⟩ rfl (fun hc => wp_weak (re_sb_at rfl (re_sb_at rfl (re_sb_at rfl (re_sb_at rfl (re_sb_nil _))))) (K1 (ic1_eq hc))) (fun hc => wp_weak (re_sb_at rfl (re_sb_at rfl (re_sb_at rfl (re_sb_at rfl (re_sb_at rfl (re_sb_nil _)))))) (K2 (ic0_eq hc)))
set_option maxRecDepth 20000 in
theorem L588_92 {SC : List Value} {d s : Nat} {h : re_H} {Q : Nat → Value → re_H → Prop} {a0 : Nat} {a1 : Nat} {a2 : Nat} {a3 : Nat} {x5 : Int32}
    (K : wp SC 576 d 0 0 [(0, .ref a0), (1, .int ((i32 2) * x5))] [] h (wp_ret SC 588 (d + 1) s 100 [(0, .ref a0), (1, .ref a1), (2, .ref a2), (3, .ref a3), (5, .int x5)] [] Q)) : wp SC 588 (d + 1) s 92 [(0, .ref a0), (1, .ref a1), (2, .ref a2), (3, .ref a3), (5, .int x5)] [] h Q := by
  refine wp_run 4 (pc' := 97) (lv' := [(0, .ref a0), (1, .ref a1), (2, .ref a2), (3, .ref a3), (5, .int x5)]) (st' := [.int ((i32 2) * x5), .ref a0]) rfl ?_
  have eA : lv_args 0 ([.int ((i32 2) * x5), .ref a0].reverse) = [(0, .ref a0), (1, .int ((i32 2) * x5))] := by simp [lv_args, vc_i, vc_l, vc_r, vc_n, vc_a]
  refine wp_callS (ar := [.int ((i32 2) * x5), .ref a0]) (rest := []) (s1 := 0) (s2 := s) (d' := d) ⟨rfl, rfl⟩ rfl (Or.inl rfl) rfl (by simp [re_cat, vc_i, vc_l, vc_r, vc_n, vc_a]) (by rw [show re_cat ([.int ((i32 2) * x5), .ref a0].reverse) = 2 from by simp [re_cat, vc_i, vc_l, vc_r, vc_n, vc_a]]; decide) (by decide) rfl rfl (Nat.le_of_eq (Nat.zero_add s)) ?_
  rw [eA]
  exact wp_mono K (fun k v h' z => wp_ret_weak (re_sb_at rfl (re_sb_at rfl (re_sb_at rfl (re_sb_at rfl (re_sb_at rfl (re_sb_nil _)))))) z)
set_option maxRecDepth 20000 in
theorem L588_100 {SC : List Value} {d s : Nat} {h : re_H} {Q : Nat → Value → re_H → Prop} {a0 : Nat} {a1 : Nat} {a2 : Nat} {a3 : Nat} {x5 : Int32} {xs0 : Int32}
    (K : wp SC 576 d 0 0 [(0, .ref a0), (1, .int (((i32 2) * x5) + (i32 1)))] [] h (wp_ret SC 588 (d + 1) s 112 [(0, .ref a0), (1, .ref a1), (2, .ref a2), (3, .ref a3), (5, .int x5), (6, .int xs0)] [] Q)) : wp SC 588 (d + 1) s 100 [(0, .ref a0), (1, .ref a1), (2, .ref a2), (3, .ref a3), (5, .int x5)] [.int xs0] h Q := by
  refine wp_run 7 (pc' := 109) (lv' := [(6, .int xs0), (0, .ref a0), (1, .ref a1), (2, .ref a2), (3, .ref a3), (5, .int x5)]) (st' := [.int (((i32 2) * x5) + (i32 1)), .ref a0]) rfl ?_
  have eA : lv_args 0 ([.int (((i32 2) * x5) + (i32 1)), .ref a0].reverse) = [(0, .ref a0), (1, .int (((i32 2) * x5) + (i32 1)))] := by simp [lv_args, vc_i, vc_l, vc_r, vc_n, vc_a]
  refine wp_callS (ar := [.int (((i32 2) * x5) + (i32 1)), .ref a0]) (rest := []) (s1 := 0) (s2 := s) (d' := d) ⟨rfl, rfl⟩ rfl (Or.inl rfl) rfl (by simp [re_cat, vc_i, vc_l, vc_r, vc_n, vc_a]) (by rw [show re_cat ([.int (((i32 2) * x5) + (i32 1)), .ref a0].reverse) = 2 from by simp [re_cat, vc_i, vc_l, vc_r, vc_n, vc_a]]; decide) (by decide) rfl rfl (Nat.le_of_eq (Nat.zero_add s)) ?_
  rw [eA]
  exact wp_mono K (fun k v h' z => wp_ret_weak (re_sb_at rfl (re_sb_at rfl (re_sb_at rfl (re_sb_at rfl (re_sb_at rfl (re_sb_at rfl (re_sb_nil _))))))) z)
set_option maxRecDepth 20000 in
theorem L588_112 {SC : List Value} {d s : Nat} {h : re_H} {Q : Nat → Value → re_H → Prop} {a0 : Nat} {a1 : Nat} {a2 : Nat} {a3 : Nat} {x5 : Int32} {x6 : Int32} {xs0 : Int32}
    (K : wp SC 577 d 0 0 [(0, .int x6), (1, .int (i32 16))] [] h (wp_ret SC 588 (d + 1) s 121 [(0, .ref a0), (1, .ref a1), (2, .ref a2), (3, .ref a3), (5, .int x5), (6, .int x6), (7, .int xs0)] [] Q)) : wp SC 588 (d + 1) s 112 [(0, .ref a0), (1, .ref a1), (2, .ref a2), (3, .ref a3), (5, .int x5), (6, .int x6)] [.int xs0] h Q := by
  refine wp_run 2 (pc' := 116) (lv' := [(7, .int xs0), (0, .ref a0), (1, .ref a1), (2, .ref a2), (3, .ref a3), (5, .int x5), (6, .int x6)]) (st' := [.int x6]) rfl ?_
  refine wp_bi (x := (i32 16)) ⟨rfl, rfl⟩ (by decide) ?_
  have eA : lv_args 0 ([.int (i32 16), .int x6].reverse) = [(0, .int x6), (1, .int (i32 16))] := by simp [lv_args, vc_i, vc_l, vc_r, vc_n, vc_a]
  refine wp_callS (ar := [.int (i32 16), .int x6]) (rest := []) (s1 := 0) (s2 := s) (d' := d) ⟨rfl, rfl⟩ rfl (Or.inl rfl) rfl (by simp [re_cat, vc_i, vc_l, vc_r, vc_n, vc_a]) (by rw [show re_cat ([.int (i32 16), .int x6].reverse) = 2 from by simp [re_cat, vc_i, vc_l, vc_r, vc_n, vc_a]]; decide) (by decide) rfl rfl (Nat.le_of_eq (Nat.zero_add s)) ?_
  rw [eA]
  exact wp_mono K (fun k v h' z => wp_ret_weak (re_sb_at rfl (re_sb_at rfl (re_sb_at rfl (re_sb_at rfl (re_sb_at rfl (re_sb_at rfl (re_sb_at rfl (re_sb_nil _)))))))) z)
set_option maxRecDepth 20000 in
theorem L588_121 {SC : List Value} {d s : Nat} {h : re_H} {Q : Nat → Value → re_H → Prop} {a0 : Nat} {a1 : Nat} {a2 : Nat} {a3 : Nat} {x5 : Int32} {x6 : Int32} {x7 : Int32} {xs0 : Int32}
    (K1 : ¬ xs0 < (i32 9) → wp SC 588 d s 143 [(0, .ref a0), (1, .ref a1), (2, .ref a2), (3, .ref a3), (5, .int x5), (6, .int x6), (7, .int x7), (8, .int xs0)] [] h Q) (K2 : xs0 < (i32 9) → wp SC 588 d s 130 [(0, .ref a0), (1, .ref a1), (2, .ref a2), (3, .ref a3), (5, .int x5), (7, .int x7)] [] h Q) : wp SC 588 d s 121 [(0, .ref a0), (1, .ref a1), (2, .ref a2), (3, .ref a3), (5, .int x5), (6, .int x6), (7, .int x7)] [.int xs0] h Q := by
  refine wp_run 2 (pc' := 125) (lv' := [(8, .int xs0), (0, .ref a0), (1, .ref a1), (2, .ref a2), (3, .ref a3), (5, .int x5), (6, .int x6), (7, .int x7)]) (st' := [.int xs0]) rfl ?_
  refine wp_bi (x := (i32 9)) ⟨rfl, rfl⟩ (by decide) ?_
  exact wp_cmp ⟨rfl, rfl⟩ rfl (fun hc => wp_weak (re_sb_at rfl (re_sb_at rfl (re_sb_at rfl (re_sb_at rfl (re_sb_at rfl (re_sb_at rfl (re_sb_at rfl (re_sb_at rfl (re_sb_nil _))))))))) (K1 (ic1_ge hc))) (fun hc => wp_weak (re_sb_at rfl (re_sb_at rfl (re_sb_at rfl (re_sb_at rfl (re_sb_at rfl (re_sb_at rfl (re_sb_nil _))))))) (K2 (ic0_ge hc)))
set_option maxRecDepth 20000 in
theorem L588_130 {SC : List Value} {d s : Nat} {h : re_H} {Q : Nat → Value → re_H → Prop} {a0 : Nat} {a1 : Nat} {a2 : Nat} {a3 : Nat} {x5 : Int32} {x7 : Int32}
    {s1 s2 : Nat} (hs : s1 + s2 ≤ s) (K : wp SC 584 d s1 0 [(0, .ref a1), (1, .ref a2), (2, .ref a3), (3, .int x7)] [] h (wp_ret SC 588 (d + 1) s2 138 [(0, .ref a0), (1, .ref a1), (2, .ref a2), (3, .ref a3), (5, .int x5)] [] Q)) : wp SC 588 (d + 1) s 130 [(0, .ref a0), (1, .ref a1), (2, .ref a2), (3, .ref a3), (5, .int x5), (7, .int x7)] [] h Q := by
  refine wp_run 4 (pc' := 135) (lv' := [(0, .ref a0), (1, .ref a1), (2, .ref a2), (3, .ref a3), (5, .int x5), (7, .int x7)]) (st' := [.int x7, .ref a3, .ref a2, .ref a1]) rfl ?_
  have eA : lv_args 0 ([.int x7, .ref a3, .ref a2, .ref a1].reverse) = [(0, .ref a1), (1, .ref a2), (2, .ref a3), (3, .int x7)] := by simp [lv_args, vc_i, vc_l, vc_r, vc_n, vc_a]
  refine wp_callS (ar := [.int x7, .ref a3, .ref a2, .ref a1]) (rest := []) (s1 := s1) (s2 := s2) (d' := d) ⟨rfl, rfl⟩ rfl (Or.inl rfl) rfl (by simp [re_cat, vc_i, vc_l, vc_r, vc_n, vc_a]) (by rw [show re_cat ([.int x7, .ref a3, .ref a2, .ref a1].reverse) = 4 from by simp [re_cat, vc_i, vc_l, vc_r, vc_n, vc_a]]; decide) (by decide) rfl rfl hs ?_
  rw [eA]
  exact wp_mono K (fun k v h' z => wp_ret_weak (re_sb_at rfl (re_sb_at rfl (re_sb_at rfl (re_sb_at rfl (re_sb_at rfl (re_sb_nil _)))))) z)
set_option maxRecDepth 20000 in
theorem L588_138 {SC : List Value} {d s : Nat} {h : re_H} {Q : Nat → Value → re_H → Prop} {a0 : Nat} {a1 : Nat} {a2 : Nat} {a3 : Nat} {x5 : Int32} {xs0 : Int32}
    (K : wp SC 588 d s 181 [(0, .ref a0), (1, .ref a1), (2, .ref a2), (3, .ref a3), (4, .int xs0), (5, .int x5)] [] h Q) : wp SC 588 d s 138 [(0, .ref a0), (1, .ref a1), (2, .ref a2), (3, .ref a3), (5, .int x5)] [.int xs0] h Q := by
  refine wp_run 2 (pc' := 181) (lv' := [(4, .int xs0), (0, .ref a0), (1, .ref a1), (2, .ref a2), (3, .ref a3), (5, .int x5)]) (st' := []) rfl ?_
  exact wp_weak (re_sb_at rfl (re_sb_at rfl (re_sb_at rfl (re_sb_at rfl (re_sb_at rfl (re_sb_at rfl (re_sb_nil _))))))) K
set_option maxRecDepth 20000 in
theorem L588_143 {SC : List Value} {d s : Nat} {h : re_H} {Q : Nat → Value → re_H → Prop} {a0 : Nat} {a1 : Nat} {a2 : Nat} {a3 : Nat} {x5 : Int32} {x6 : Int32} {x7 : Int32} {x8 : Int32}
    (K1 : ¬ x8 < (i32 13) → wp SC 588 d s 167 [(0, .ref a0), (1, .ref a1), (2, .ref a2), (3, .ref a3), (5, .int x5), (6, .int x6), (7, .int x7)] [] h Q) (K2 : x8 < (i32 13) → wp SC 588 d s 150 [(0, .ref a0), (1, .ref a1), (2, .ref a2), (3, .ref a3), (5, .int x5), (6, .int x6), (7, .int x7)] [] h Q) : wp SC 588 d s 143 [(0, .ref a0), (1, .ref a1), (2, .ref a2), (3, .ref a3), (5, .int x5), (6, .int x6), (7, .int x7), (8, .int x8)] [] h Q := by
  refine wp_run 1 (pc' := 145) (lv' := [(0, .ref a0), (1, .ref a1), (2, .ref a2), (3, .ref a3), (5, .int x5), (6, .int x6), (7, .int x7), (8, .int x8)]) (st' := [.int x8]) rfl ?_
  refine wp_bi (x := (i32 13)) ⟨rfl, rfl⟩ (by decide) ?_
  exact wp_cmp ⟨rfl, rfl⟩ rfl (fun hc => wp_weak (re_sb_at rfl (re_sb_at rfl (re_sb_at rfl (re_sb_at rfl (re_sb_at rfl (re_sb_at rfl (re_sb_at rfl (re_sb_nil _)))))))) (K1 (ic1_ge hc))) (fun hc => wp_weak (re_sb_at rfl (re_sb_at rfl (re_sb_at rfl (re_sb_at rfl (re_sb_at rfl (re_sb_at rfl (re_sb_at rfl (re_sb_nil _)))))))) (K2 (ic0_ge hc)))
set_option maxRecDepth 20000 in
theorem L588_150 {SC : List Value} {d s : Nat} {h : re_H} {Q : Nat → Value → re_H → Prop} {a0 : Nat} {a1 : Nat} {a2 : Nat} {a3 : Nat} {x5 : Int32} {x6 : Int32} {x7 : Int32}
    {s1 s2 : Nat} (hs : s1 + s2 ≤ s) (K : wp SC 585 d s1 0 [(0, .ref a1), (1, .ref a2), (2, .ref a3), (3, .int (x6 >>> ((i32 4) &&& 31))), (4, .int x7)] [] h (wp_ret SC 588 (d + 1) s2 162 [(0, .ref a0), (1, .ref a1), (2, .ref a2), (3, .ref a3), (5, .int x5)] [] Q)) : wp SC 588 (d + 1) s 150 [(0, .ref a0), (1, .ref a1), (2, .ref a2), (3, .ref a3), (5, .int x5), (6, .int x6), (7, .int x7)] [] h Q := by
  refine wp_run 7 (pc' := 159) (lv' := [(0, .ref a0), (1, .ref a1), (2, .ref a2), (3, .ref a3), (5, .int x5), (6, .int x6), (7, .int x7)]) (st' := [.int x7, .int (x6 >>> ((i32 4) &&& 31)), .ref a3, .ref a2, .ref a1]) rfl ?_
  have eA : lv_args 0 ([.int x7, .int (x6 >>> ((i32 4) &&& 31)), .ref a3, .ref a2, .ref a1].reverse) = [(0, .ref a1), (1, .ref a2), (2, .ref a3), (3, .int (x6 >>> ((i32 4) &&& 31))), (4, .int x7)] := by simp [lv_args, vc_i, vc_l, vc_r, vc_n, vc_a]
  refine wp_callS (ar := [.int x7, .int (x6 >>> ((i32 4) &&& 31)), .ref a3, .ref a2, .ref a1]) (rest := []) (s1 := s1) (s2 := s2) (d' := d) ⟨rfl, rfl⟩ rfl (Or.inl rfl) rfl (by simp [re_cat, vc_i, vc_l, vc_r, vc_n, vc_a]) (by rw [show re_cat ([.int x7, .int (x6 >>> ((i32 4) &&& 31)), .ref a3, .ref a2, .ref a1].reverse) = 5 from by simp [re_cat, vc_i, vc_l, vc_r, vc_n, vc_a]]; decide) (by decide) rfl rfl hs ?_
  rw [eA]
  exact wp_mono K (fun k v h' z => wp_ret_weak (re_sb_at rfl (re_sb_at rfl (re_sb_at rfl (re_sb_at rfl (re_sb_at rfl (re_sb_nil _)))))) z)
set_option maxRecDepth 20000 in
theorem L588_162 {SC : List Value} {d s : Nat} {h : re_H} {Q : Nat → Value → re_H → Prop} {a0 : Nat} {a1 : Nat} {a2 : Nat} {a3 : Nat} {x5 : Int32} {xs0 : Int32}
    (K : wp SC 588 d s 181 [(0, .ref a0), (1, .ref a1), (2, .ref a2), (3, .ref a3), (4, .int xs0), (5, .int x5)] [] h Q) : wp SC 588 d s 162 [(0, .ref a0), (1, .ref a1), (2, .ref a2), (3, .ref a3), (5, .int x5)] [.int xs0] h Q := by
  refine wp_run 2 (pc' := 181) (lv' := [(4, .int xs0), (0, .ref a0), (1, .ref a1), (2, .ref a2), (3, .ref a3), (5, .int x5)]) (st' := []) rfl ?_
  exact wp_weak (re_sb_at rfl (re_sb_at rfl (re_sb_at rfl (re_sb_at rfl (re_sb_at rfl (re_sb_at rfl (re_sb_nil _))))))) K
set_option maxRecDepth 20000 in
theorem L588_167 {SC : List Value} {d s : Nat} {h : re_H} {Q : Nat → Value → re_H → Prop} {a0 : Nat} {a1 : Nat} {a2 : Nat} {a3 : Nat} {x5 : Int32} {x6 : Int32} {x7 : Int32}
    {s1 s2 : Nat} (hs : s1 + s2 ≤ s) (K : wp SC 586 d s1 0 [(0, .ref a1), (1, .ref a2), (2, .ref a3), (3, .int (x6 >>> ((i32 4) &&& 31))), (4, .int x7)] [] h (wp_ret SC 588 (d + 1) s2 179 [(0, .ref a0), (1, .ref a1), (2, .ref a2), (3, .ref a3), (5, .int x5)] [] Q)) : wp SC 588 (d + 1) s 167 [(0, .ref a0), (1, .ref a1), (2, .ref a2), (3, .ref a3), (5, .int x5), (6, .int x6), (7, .int x7)] [] h Q := by
  refine wp_run 7 (pc' := 176) (lv' := [(0, .ref a0), (1, .ref a1), (2, .ref a2), (3, .ref a3), (5, .int x5), (6, .int x6), (7, .int x7)]) (st' := [.int x7, .int (x6 >>> ((i32 4) &&& 31)), .ref a3, .ref a2, .ref a1]) rfl ?_
  have eA : lv_args 0 ([.int x7, .int (x6 >>> ((i32 4) &&& 31)), .ref a3, .ref a2, .ref a1].reverse) = [(0, .ref a1), (1, .ref a2), (2, .ref a3), (3, .int (x6 >>> ((i32 4) &&& 31))), (4, .int x7)] := by simp [lv_args, vc_i, vc_l, vc_r, vc_n, vc_a]
  refine wp_callS (ar := [.int x7, .int (x6 >>> ((i32 4) &&& 31)), .ref a3, .ref a2, .ref a1]) (rest := []) (s1 := s1) (s2 := s2) (d' := d) ⟨rfl, rfl⟩ rfl (Or.inl rfl) rfl (by simp [re_cat, vc_i, vc_l, vc_r, vc_n, vc_a]) (by rw [show re_cat ([.int x7, .int (x6 >>> ((i32 4) &&& 31)), .ref a3, .ref a2, .ref a1].reverse) = 5 from by simp [re_cat, vc_i, vc_l, vc_r, vc_n, vc_a]]; decide) (by decide) rfl rfl hs ?_
  rw [eA]
  exact wp_mono K (fun k v h' z => wp_ret_weak (re_sb_at rfl (re_sb_at rfl (re_sb_at rfl (re_sb_at rfl (re_sb_at rfl (re_sb_nil _)))))) z)
set_option maxRecDepth 20000 in
theorem L588_179 {SC : List Value} {d s : Nat} {h : re_H} {Q : Nat → Value → re_H → Prop} {a0 : Nat} {a1 : Nat} {a2 : Nat} {a3 : Nat} {x5 : Int32} {xs0 : Int32}
    (K : wp SC 588 d s 181 [(0, .ref a0), (1, .ref a1), (2, .ref a2), (3, .ref a3), (4, .int xs0), (5, .int x5)] [] h Q) : wp SC 588 d s 179 [(0, .ref a0), (1, .ref a1), (2, .ref a2), (3, .ref a3), (5, .int x5)] [.int xs0] h Q := by
  refine wp_run 1 (pc' := 181) (lv' := [(4, .int xs0), (0, .ref a0), (1, .ref a1), (2, .ref a2), (3, .ref a3), (5, .int x5)]) (st' := []) rfl ?_
  exact wp_weak (re_sb_at rfl (re_sb_at rfl (re_sb_at rfl (re_sb_at rfl (re_sb_at rfl (re_sb_at rfl (re_sb_nil _))))))) K
set_option maxRecDepth 20000 in
theorem L588_181 {SC : List Value} {d s : Nat} {h : re_H} {Q : Nat → Value → re_H → Prop} {a0 : Nat} {a1 : Nat} {a2 : Nat} {a3 : Nat} {x4 : Int32} {x5 : Int32}
    (K1 : x4 = 0 → wp SC 588 d s 250 [(0, .ref a0), (1, .ref a1), (2, .ref a2), (3, .ref a3), (5, .int x5)] [] h Q) (K2 : ¬ x4 = 0 → wp SC 588 d s 186 [(0, .ref a0), (1, .ref a1), (2, .ref a2), (3, .ref a3), (5, .int x5)] [] h Q) : wp SC 588 d s 181 [(0, .ref a0), (1, .ref a1), (2, .ref a2), (3, .ref a3), (4, .int x4), (5, .int x5)] [] h Q := by
  refine wp_run 1 (pc' := 183) (lv' := [(0, .ref a0), (1, .ref a1), (2, .ref a2), (3, .ref a3), (4, .int x4), (5, .int x5)]) (st' := [.int x4]) rfl ?_
  exact wp_if ⟨rfl, rfl⟩ rfl (fun hc => wp_weak (re_sb_at rfl (re_sb_at rfl (re_sb_at rfl (re_sb_at rfl (re_sb_at rfl (re_sb_nil _)))))) (K1 (ic1_eq hc))) (fun hc => wp_weak (re_sb_at rfl (re_sb_at rfl (re_sb_at rfl (re_sb_at rfl (re_sb_at rfl (re_sb_nil _)))))) (K2 (ic0_eq hc)))
set_option maxRecDepth 20000 in
theorem L588_186 {SC : List Value} {d s : Nat} {h : re_H} {Q : Nat → Value → re_H → Prop} {a0 : Nat} {a1 : Nat} {a2 : Nat} {a3 : Nat} {x5 : Int32}
    (K1 : 0 < (x5 - x5 / (i32 6) * (i32 6)) → wp SC 588 d s 228 [(0, .ref a0), (1, .ref a1), (2, .ref a2), (3, .ref a3), (5, .int x5)] [] h Q) (K2 : ¬ 0 < (x5 - x5 / (i32 6) * (i32 6)) → wp SC 588 d s 194 [(0, .ref a0), (1, .ref a1), (2, .ref a2), (3, .ref a3), (5, .int x5)] [] h Q) : wp SC 588 d s 186 [(0, .ref a0), (1, .ref a1), (2, .ref a2), (3, .ref a3), (5, .int x5)] [] h Q := by
  refine wp_run 1 (pc' := 188) (lv' := [(0, .ref a0), (1, .ref a1), (2, .ref a2), (3, .ref a3), (5, .int x5)]) (st' := [.int x5]) rfl ?_
  refine wp_bi (x := (i32 6)) ⟨rfl, rfl⟩ (by decide) ?_
  refine wp_pure (pc' := 191) (lv' := [(0, .ref a0), (1, .ref a1), (2, .ref a2), (3, .ref a3), (5, .int x5)]) (st' := [.int (x5 - x5 / (i32 6) * (i32 6))]) ⟨rfl, rfl⟩ (by simp only [re_pure, if_neg (show ¬ (i32 6) = 0 from by decide)]) ?_
  exact wp_if ⟨rfl, rfl⟩ rfl (fun hc => wp_weak (re_sb_at rfl (re_sb_at rfl (re_sb_at rfl (re_sb_at rfl (re_sb_at rfl (re_sb_nil _)))))) (K1 (ic1_gt hc))) (fun hc => wp_weak (re_sb_at rfl (re_sb_at rfl (re_sb_at rfl (re_sb_at rfl (re_sb_at rfl (re_sb_nil _)))))) (K2 (ic0_gt hc)))
set_option maxRecDepth 20000 in
theorem L588_194 {SC : List Value} {d s : Nat} {h : re_H} {Q : Nat → Value → re_H → Prop} {a0 : Nat} {a1 : Nat} {a2 : Nat} {a3 : Nat} {x5 : Int32}
    {xe1 : Int32} (e2 : nb_ar h a3 100 (i32 1) (.int xe1)) {s1 s2 : Nat} (hs : s1 + s2 ≤ s) (K : wp SC 578 d s1 0 [(0, .ref a1), (1, .int xe1)] [] h (wp_ret SC 588 (d + 1) s2 201 [(0, .ref a0), (1, .ref a1), (2, .ref a2), (3, .ref a3), (5, .int x5)] [] Q)) : wp SC 588 (d + 1) s 194 [(0, .ref a0), (1, .ref a1), (2, .ref a2), (3, .ref a3), (5, .int x5)] [] h Q := by
  refine wp_run 3 (pc' := 197) (lv' := [(0, .ref a0), (1, .ref a1), (2, .ref a2), (3, .ref a3), (5, .int x5)]) (st' := [.int (i32 1), .ref a3, .ref a1]) rfl ?_
  obtain ⟨w2, i2, e2a, e2x, e2i, e2v⟩ := e2
  refine wp_ial ⟨rfl, rfl⟩ e2a rfl e2x e2i e2v ?_
  have eA : lv_args 0 ([.int xe1, .ref a1].reverse) = [(0, .ref a1), (1, .int xe1)] := by simp [lv_args, vc_i, vc_l, vc_r, vc_n, vc_a]
  refine wp_callS (ar := [.int xe1, .ref a1]) (rest := []) (s1 := s1) (s2 := s2) (d' := d) ⟨rfl, rfl⟩ rfl (Or.inl rfl) rfl (by simp [re_cat, vc_i, vc_l, vc_r, vc_n, vc_a]) (by rw [show re_cat ([.int xe1, .ref a1].reverse) = 2 from by simp [re_cat, vc_i, vc_l, vc_r, vc_n, vc_a]]; decide) (by decide) rfl rfl hs ?_
  rw [eA]
  exact wp_mono K (fun k v h' z => wp_ret_weak (re_sb_at rfl (re_sb_at rfl (re_sb_at rfl (re_sb_at rfl (re_sb_at rfl (re_sb_nil _)))))) z)
set_option maxRecDepth 20000 in
theorem L588_201 {SC : List Value} {d s : Nat} {h : re_H} {Q : Nat → Value → re_H → Prop} {a0 : Nat} {a1 : Nat} {a2 : Nat} {a3 : Nat} {x5 : Int32} {ls0 : Int64}
    {xe1 : Int32} (e2 : nb_ar h a3 100 (i32 1) (.int xe1)) {s1 s2 : Nat} (hs : s1 + s2 ≤ s) (K : wp SC 578 d s1 0 [(0, .ref a2), (1, .int xe1)] [] h (wp_ret SC 588 (d + 1) s2 208 [(0, .ref a0), (1, .ref a1), (2, .ref a2), (3, .ref a3), (5, .int x5)] [.long ls0] Q)) : wp SC 588 (d + 1) s 201 [(0, .ref a0), (1, .ref a1), (2, .ref a2), (3, .ref a3), (5, .int x5)] [.long ls0] h Q := by
  refine wp_run 3 (pc' := 204) (lv' := [(0, .ref a0), (1, .ref a1), (2, .ref a2), (3, .ref a3), (5, .int x5)]) (st' := [.int (i32 1), .ref a3, .ref a2, .long ls0]) rfl ?_
  obtain ⟨w2, i2, e2a, e2x, e2i, e2v⟩ := e2
  refine wp_ial ⟨rfl, rfl⟩ e2a rfl e2x e2i e2v ?_
  have eA : lv_args 0 ([.int xe1, .ref a2].reverse) = [(0, .ref a2), (1, .int xe1)] := by simp [lv_args, vc_i, vc_l, vc_r, vc_n, vc_a]
  refine wp_callS (ar := [.int xe1, .ref a2]) (rest := [.long ls0]) (s1 := s1) (s2 := s2) (d' := d) ⟨rfl, rfl⟩ rfl (Or.inl rfl) rfl (by simp [re_cat, vc_i, vc_l, vc_r, vc_n, vc_a]) (by rw [show re_cat ([.int xe1, .ref a2].reverse) = 2 from by simp [re_cat, vc_i, vc_l, vc_r, vc_n, vc_a]]; decide) (by decide) rfl rfl hs ?_
  rw [eA]
  exact wp_mono K (fun k v h' z => wp_ret_weak (re_sb_at rfl (re_sb_at rfl (re_sb_at rfl (re_sb_at rfl (re_sb_at rfl (re_sb_nil _)))))) z)
set_option maxRecDepth 20000 in
theorem L588_208 {SC : List Value} {d s : Nat} {h : re_H} {Q : Nat → Value → re_H → Prop} {a0 : Nat} {a1 : Nat} {a2 : Nat} {a3 : Nat} {x5 : Int32} {ls0 : Int64} {ls1 : Int64}
    (K1 : ¬ ls1 = ls0 → wp SC 588 d s 250 [(0, .ref a0), (1, .ref a1), (2, .ref a2), (3, .ref a3), (5, .int x5)] [] h Q) (K2 : ls1 = ls0 → wp SC 588 d s 212 [(0, .ref a0), (1, .ref a1), (2, .ref a2), (3, .ref a3), (5, .int x5)] [] h Q) : wp SC 588 d s 208 [(0, .ref a0), (1, .ref a1), (2, .ref a2), (3, .ref a3), (5, .int x5)] [.long ls0, .long ls1] h Q := by
  refine wp_run 1 (pc' := 209) (lv' := [(0, .ref a0), (1, .ref a1), (2, .ref a2), (3, .ref a3), (5, .int x5)]) (st' := [.int (lg_cmp ls1 ls0)]) rfl ?_
  exact wp_if ⟨rfl, rfl⟩ rfl (fun hc => wp_weak (re_sb_at rfl (re_sb_at rfl (re_sb_at rfl (re_sb_at rfl (re_sb_at rfl (re_sb_nil _)))))) (K1 (lc1_ne hc))) (fun hc => wp_weak (re_sb_at rfl (re_sb_at rfl (re_sb_at rfl (re_sb_at rfl (re_sb_at rfl (re_sb_nil _)))))) (K2 (lc0_ne hc)))
set_option maxRecDepth 20000 in
theorem L588_212 {SC : List Value} {d s : Nat} {h : re_H} {Q : Nat → Value → re_H → Prop} {a0 : Nat} {a1 : Nat} {a2 : Nat} {a3 : Nat} {x5 : Int32}
    {xe1 : Int32} (e2 : nb_ar h a3 100 (i32 1) (.int xe1)) {xe3 : Int32} (e4 : nb_ar h a3 100 (i32 2) (.int xe3)) {xe5 : Int32} (e6 : nb_ar h a3 100 (i32 4) (.int xe5)) {s1 s2 : Nat} (hs : s1 + s2 ≤ s) (K : wp SC 582 d s1 0 [(0, .ref a1), (1, .int xe1), (2, .int xe3), (3, .int xe5)] [] h (wp_ret SC 588 (d + 1) s2 225 [(0, .ref a0), (1, .ref a1), (2, .ref a2), (3, .ref a3), (5, .int x5)] [] Q)) : wp SC 588 (d + 1) s 212 [(0, .ref a0), (1, .ref a1), (2, .ref a2), (3, .ref a3), (5, .int x5)] [] h Q := by
  refine wp_run 3 (pc' := 215) (lv' := [(0, .ref a0), (1, .ref a1), (2, .ref a2), (3, .ref a3), (5, .int x5)]) (st' := [.int (i32 1), .ref a3, .ref a1]) rfl ?_
  obtain ⟨w2, i2, e2a, e2x, e2i, e2v⟩ := e2
  refine wp_ial ⟨rfl, rfl⟩ e2a rfl e2x e2i e2v ?_
  refine wp_run 2 (pc' := 218) (lv' := [(0, .ref a0), (1, .ref a1), (2, .ref a2), (3, .ref a3), (5, .int x5)]) (st' := [.int (i32 2), .ref a3, .int xe1, .ref a1]) rfl ?_
  obtain ⟨w4, i4, e4a, e4x, e4i, e4v⟩ := e4
  refine wp_ial ⟨rfl, rfl⟩ e4a rfl e4x e4i e4v ?_
  refine wp_run 2 (pc' := 221) (lv' := [(0, .ref a0), (1, .ref a1), (2, .ref a2), (3, .ref a3), (5, .int x5)]) (st' := [.int (i32 4), .ref a3, .int xe3, .int xe1, .ref a1]) rfl ?_
  obtain ⟨w6, i6, e6a, e6x, e6i, e6v⟩ := e6
  refine wp_ial ⟨rfl, rfl⟩ e6a rfl e6x e6i e6v ?_
  have eA : lv_args 0 ([.int xe5, .int xe3, .int xe1, .ref a1].reverse) = [(0, .ref a1), (1, .int xe1), (2, .int xe3), (3, .int xe5)] := by simp [lv_args, vc_i, vc_l, vc_r, vc_n, vc_a]
  refine wp_callS (ar := [.int xe5, .int xe3, .int xe1, .ref a1]) (rest := []) (s1 := s1) (s2 := s2) (d' := d) ⟨rfl, rfl⟩ rfl (Or.inl rfl) rfl (by simp [re_cat, vc_i, vc_l, vc_r, vc_n, vc_a]) (by rw [show re_cat ([.int xe5, .int xe3, .int xe1, .ref a1].reverse) = 4 from by simp [re_cat, vc_i, vc_l, vc_r, vc_n, vc_a]]; decide) (by decide) rfl rfl hs ?_
  rw [eA]
  exact wp_mono K (fun k v h' z => wp_ret_weak (re_sb_at rfl (re_sb_at rfl (re_sb_at rfl (re_sb_at rfl (re_sb_at rfl (re_sb_nil _)))))) z)
set_option maxRecDepth 20000 in
theorem L588_225 {SC : List Value} {d s : Nat} {h : re_H} {Q : Nat → Value → re_H → Prop} {a0 : Nat} {a1 : Nat} {a2 : Nat} {a3 : Nat} {x5 : Int32} {xs0 : Int32}
    (K1 : xs0 = 0 → wp SC 588 d s 250 [(0, .ref a0), (1, .ref a1), (2, .ref a2), (3, .ref a3), (5, .int x5)] [] h Q) (K2 : ¬ xs0 = 0 → wp SC 588 d s 228 [(0, .ref a0), (1, .ref a1), (2, .ref a2), (3, .ref a3), (5, .int x5)] [] h Q) : wp SC 588 d s 225 [(0, .ref a0), (1, .ref a1), (2, .ref a2), (3, .ref a3), (5, .int x5)] [.int xs0] h Q := by
  exact wp_if ⟨rfl, rfl⟩ rfl (fun hc => wp_weak (re_sb_at rfl (re_sb_at rfl (re_sb_at rfl (re_sb_at rfl (re_sb_at rfl (re_sb_nil _)))))) (K1 (ic1_eq hc))) (fun hc => wp_weak (re_sb_at rfl (re_sb_at rfl (re_sb_at rfl (re_sb_at rfl (re_sb_at rfl (re_sb_nil _)))))) (K2 (ic0_eq hc)))
set_option maxRecDepth 20000 in
theorem L588_228 {SC : List Value} {d s : Nat} {h : re_H} {Q : Nat → Value → re_H → Prop} {a0 : Nat} {a1 : Nat} {a2 : Nat} {a3 : Nat} {x5 : Int32}
    (K1 : 0 < (x5 - x5 / (i32 30) * (i32 30)) → wp SC 588 d s 246 [(0, .ref a0), (1, .ref a1), (2, .ref a2), (3, .ref a3), (5, .int x5)] [] h Q) (K2 : ¬ 0 < (x5 - x5 / (i32 30) * (i32 30)) → wp SC 588 d s 236 [(0, .ref a0), (1, .ref a1), (2, .ref a2), (3, .ref a3), (5, .int x5)] [] h Q) : wp SC 588 d s 228 [(0, .ref a0), (1, .ref a1), (2, .ref a2), (3, .ref a3), (5, .int x5)] [] h Q := by
  refine wp_run 1 (pc' := 230) (lv' := [(0, .ref a0), (1, .ref a1), (2, .ref a2), (3, .ref a3), (5, .int x5)]) (st' := [.int x5]) rfl ?_
  refine wp_bi (x := (i32 30)) ⟨rfl, rfl⟩ (by decide) ?_
  refine wp_pure (pc' := 233) (lv' := [(0, .ref a0), (1, .ref a1), (2, .ref a2), (3, .ref a3), (5, .int x5)]) (st' := [.int (x5 - x5 / (i32 30) * (i32 30))]) ⟨rfl, rfl⟩ (by simp only [re_pure, if_neg (show ¬ (i32 30) = 0 from by decide)]) ?_
  exact wp_if ⟨rfl, rfl⟩ rfl (fun hc => wp_weak (re_sb_at rfl (re_sb_at rfl (re_sb_at rfl (re_sb_at rfl (re_sb_at rfl (re_sb_nil _)))))) (K1 (ic1_gt hc))) (fun hc => wp_weak (re_sb_at rfl (re_sb_at rfl (re_sb_at rfl (re_sb_at rfl (re_sb_at rfl (re_sb_nil _)))))) (K2 (ic0_gt hc)))
set_option maxRecDepth 20000 in
theorem L588_236 {SC : List Value} {d s : Nat} {h : re_H} {Q : Nat → Value → re_H → Prop} {a0 : Nat} {a1 : Nat} {a2 : Nat} {a3 : Nat} {x5 : Int32}
    {xe1 : Int32} (e2 : nb_ar h a3 100 (i32 1) (.int xe1)) {s1 s2 : Nat} (hs : s1 + s2 ≤ s) (K : wp SC 587 d s1 0 [(0, .ref a1), (1, .int xe1)] [] h (wp_ret SC 588 (d + 1) s2 243 [(0, .ref a0), (1, .ref a1), (2, .ref a2), (3, .ref a3), (5, .int x5)] [] Q)) : wp SC 588 (d + 1) s 236 [(0, .ref a0), (1, .ref a1), (2, .ref a2), (3, .ref a3), (5, .int x5)] [] h Q := by
  refine wp_run 3 (pc' := 239) (lv' := [(0, .ref a0), (1, .ref a1), (2, .ref a2), (3, .ref a3), (5, .int x5)]) (st' := [.int (i32 1), .ref a3, .ref a1]) rfl ?_
  obtain ⟨w2, i2, e2a, e2x, e2i, e2v⟩ := e2
  refine wp_ial ⟨rfl, rfl⟩ e2a rfl e2x e2i e2v ?_
  have eA : lv_args 0 ([.int xe1, .ref a1].reverse) = [(0, .ref a1), (1, .int xe1)] := by simp [lv_args, vc_i, vc_l, vc_r, vc_n, vc_a]
  refine wp_callS (ar := [.int xe1, .ref a1]) (rest := []) (s1 := s1) (s2 := s2) (d' := d) ⟨rfl, rfl⟩ rfl (Or.inl rfl) rfl (by simp [re_cat, vc_i, vc_l, vc_r, vc_n, vc_a]) (by rw [show re_cat ([.int xe1, .ref a1].reverse) = 2 from by simp [re_cat, vc_i, vc_l, vc_r, vc_n, vc_a]]; decide) (by decide) rfl rfl hs ?_
  rw [eA]
  exact wp_mono K (fun k v h' z => wp_ret_weak (re_sb_at rfl (re_sb_at rfl (re_sb_at rfl (re_sb_at rfl (re_sb_at rfl (re_sb_nil _)))))) z)
set_option maxRecDepth 20000 in
theorem L588_243 {SC : List Value} {d s : Nat} {h : re_H} {Q : Nat → Value → re_H → Prop} {a0 : Nat} {a1 : Nat} {a2 : Nat} {a3 : Nat} {x5 : Int32} {xs0 : Int32}
    (K1 : xs0 = 0 → wp SC 588 d s 250 [(0, .ref a0), (1, .ref a1), (2, .ref a2), (3, .ref a3), (5, .int x5)] [] h Q) (K2 : ¬ xs0 = 0 → wp SC 588 d s 246 [(0, .ref a0), (1, .ref a1), (2, .ref a2), (3, .ref a3), (5, .int x5)] [] h Q) : wp SC 588 d s 243 [(0, .ref a0), (1, .ref a1), (2, .ref a2), (3, .ref a3), (5, .int x5)] [.int xs0] h Q := by
  exact wp_if ⟨rfl, rfl⟩ rfl (fun hc => wp_weak (re_sb_at rfl (re_sb_at rfl (re_sb_at rfl (re_sb_at rfl (re_sb_at rfl (re_sb_nil _)))))) (K1 (ic1_eq hc))) (fun hc => wp_weak (re_sb_at rfl (re_sb_at rfl (re_sb_at rfl (re_sb_at rfl (re_sb_at rfl (re_sb_nil _)))))) (K2 (ic0_eq hc)))
set_option maxRecDepth 20000 in
theorem L588_246 {SC : List Value} {d s : Nat} {h : re_H} {Q : Nat → Value → re_H → Prop} {a0 : Nat} {a1 : Nat} {a2 : Nat} {a3 : Nat} {x5 : Int32}
    (K : wp SC 588 d s 251 [(0, .ref a0), (1, .ref a1), (2, .ref a2), (3, .ref a3), (5, .int x5)] [.int (i32 1)] h Q) : wp SC 588 d s 246 [(0, .ref a0), (1, .ref a1), (2, .ref a2), (3, .ref a3), (5, .int x5)] [] h Q := by
  refine wp_run 2 (pc' := 251) (lv' := [(0, .ref a0), (1, .ref a1), (2, .ref a2), (3, .ref a3), (5, .int x5)]) (st' := [.int (i32 1)]) rfl ?_
  exact wp_weak (re_sb_at rfl (re_sb_at rfl (re_sb_at rfl (re_sb_at rfl (re_sb_at rfl (re_sb_nil _)))))) K
set_option maxRecDepth 20000 in
theorem L588_250 {SC : List Value} {d s : Nat} {h : re_H} {Q : Nat → Value → re_H → Prop} {a0 : Nat} {a1 : Nat} {a2 : Nat} {a3 : Nat} {x5 : Int32}
    (K : wp SC 588 d s 251 [(0, .ref a0), (1, .ref a1), (2, .ref a2), (3, .ref a3), (5, .int x5)] [.int (i32 0)] h Q) : wp SC 588 d s 250 [(0, .ref a0), (1, .ref a1), (2, .ref a2), (3, .ref a3), (5, .int x5)] [] h Q := by
  refine wp_run 1 (pc' := 251) (lv' := [(0, .ref a0), (1, .ref a1), (2, .ref a2), (3, .ref a3), (5, .int x5)]) (st' := [.int (i32 0)]) rfl ?_
  exact wp_weak (re_sb_at rfl (re_sb_at rfl (re_sb_at rfl (re_sb_at rfl (re_sb_at rfl (re_sb_nil _)))))) K
set_option maxRecDepth 20000 in
theorem L588_251 {SC : List Value} {d s : Nat} {h : re_H} {Q : Nat → Value → re_H → Prop} {a0 : Nat} {a1 : Nat} {a2 : Nat} {a3 : Nat} {x5 : Int32} {xs0 : Int32}
    (K : wp SC 588 d s 80 [(0, .ref a0), (1, .ref a1), (2, .ref a2), (3, .ref a3), (4, .int xs0), (5, .int (x5 + (i32 1)))] [] h Q) : wp SC 588 d s 251 [(0, .ref a0), (1, .ref a1), (2, .ref a2), (3, .ref a3), (5, .int x5)] [.int xs0] h Q := by
  refine wp_run 3 (pc' := 80) (lv' := [(5, .int (x5 + (i32 1))), (4, .int xs0), (0, .ref a0), (1, .ref a1), (2, .ref a2), (3, .ref a3)]) (st' := []) rfl ?_
  exact wp_weak (re_sb_at rfl (re_sb_at rfl (re_sb_at rfl (re_sb_at rfl (re_sb_at rfl (re_sb_at rfl (re_sb_nil _))))))) K
set_option maxRecDepth 20000 in
theorem L588_259 {SC : List Value} {d s : Nat} {h : re_H} {Q : Nat → Value → re_H → Prop} {a1 : Nat} {a2 : Nat} {a3 : Nat} {x4 : Int32}
    (K1 : x4 = 0 → wp SC 588 d s 302 [] [] h Q) (K2 : ¬ x4 = 0 → wp SC 588 d s 264 [(1, .ref a1), (2, .ref a2), (3, .ref a3)] [] h Q) : wp SC 588 d s 259 [(1, .ref a1), (2, .ref a2), (3, .ref a3), (4, .int x4)] [] h Q := by
  refine wp_run 1 (pc' := 261) (lv' := [(1, .ref a1), (2, .ref a2), (3, .ref a3), (4, .int x4)]) (st' := [.int x4]) rfl ?_
  exact wp_if ⟨rfl, rfl⟩ rfl (fun hc => wp_weak (re_sb_nil _) (K1 (ic1_eq hc))) (fun hc => wp_weak (re_sb_at rfl (re_sb_at rfl (re_sb_at rfl (re_sb_nil _)))) (K2 (ic0_eq hc)))
set_option maxRecDepth 20000 in
theorem L588_264 {SC : List Value} {d s : Nat} {h : re_H} {Q : Nat → Value → re_H → Prop} {a1 : Nat} {a2 : Nat} {a3 : Nat}
    {xe1 : Int32} (e2 : nb_ar h a3 100 (i32 1) (.int xe1)) {s1 s2 : Nat} (hs : s1 + s2 ≤ s) (K : wp SC 578 d s1 0 [(0, .ref a1), (1, .int xe1)] [] h (wp_ret SC 588 (d + 1) s2 271 [(1, .ref a1), (2, .ref a2), (3, .ref a3)] [] Q)) : wp SC 588 (d + 1) s 264 [(1, .ref a1), (2, .ref a2), (3, .ref a3)] [] h Q := by
  refine wp_run 3 (pc' := 267) (lv' := [(1, .ref a1), (2, .ref a2), (3, .ref a3)]) (st' := [.int (i32 1), .ref a3, .ref a1]) rfl ?_
  obtain ⟨w2, i2, e2a, e2x, e2i, e2v⟩ := e2
  refine wp_ial ⟨rfl, rfl⟩ e2a rfl e2x e2i e2v ?_
  have eA : lv_args 0 ([.int xe1, .ref a1].reverse) = [(0, .ref a1), (1, .int xe1)] := by simp [lv_args, vc_i, vc_l, vc_r, vc_n, vc_a]
  refine wp_callS (ar := [.int xe1, .ref a1]) (rest := []) (s1 := s1) (s2 := s2) (d' := d) ⟨rfl, rfl⟩ rfl (Or.inl rfl) rfl (by simp [re_cat, vc_i, vc_l, vc_r, vc_n, vc_a]) (by rw [show re_cat ([.int xe1, .ref a1].reverse) = 2 from by simp [re_cat, vc_i, vc_l, vc_r, vc_n, vc_a]]; decide) (by decide) rfl rfl hs ?_
  rw [eA]
  exact wp_mono K (fun k v h' z => wp_ret_weak (re_sb_at rfl (re_sb_at rfl (re_sb_at rfl (re_sb_nil _)))) z)
set_option maxRecDepth 20000 in
theorem L588_271 {SC : List Value} {d s : Nat} {h : re_H} {Q : Nat → Value → re_H → Prop} {a1 : Nat} {a2 : Nat} {a3 : Nat} {ls0 : Int64}
    {xe1 : Int32} (e2 : nb_ar h a3 100 (i32 1) (.int xe1)) {s1 s2 : Nat} (hs : s1 + s2 ≤ s) (K : wp SC 578 d s1 0 [(0, .ref a2), (1, .int xe1)] [] h (wp_ret SC 588 (d + 1) s2 278 [(1, .ref a1), (3, .ref a3)] [.long ls0] Q)) : wp SC 588 (d + 1) s 271 [(1, .ref a1), (2, .ref a2), (3, .ref a3)] [.long ls0] h Q := by
  refine wp_run 3 (pc' := 274) (lv' := [(1, .ref a1), (2, .ref a2), (3, .ref a3)]) (st' := [.int (i32 1), .ref a3, .ref a2, .long ls0]) rfl ?_
  obtain ⟨w2, i2, e2a, e2x, e2i, e2v⟩ := e2
  refine wp_ial ⟨rfl, rfl⟩ e2a rfl e2x e2i e2v ?_
  have eA : lv_args 0 ([.int xe1, .ref a2].reverse) = [(0, .ref a2), (1, .int xe1)] := by simp [lv_args, vc_i, vc_l, vc_r, vc_n, vc_a]
  refine wp_callS (ar := [.int xe1, .ref a2]) (rest := [.long ls0]) (s1 := s1) (s2 := s2) (d' := d) ⟨rfl, rfl⟩ rfl (Or.inl rfl) rfl (by simp [re_cat, vc_i, vc_l, vc_r, vc_n, vc_a]) (by rw [show re_cat ([.int xe1, .ref a2].reverse) = 2 from by simp [re_cat, vc_i, vc_l, vc_r, vc_n, vc_a]]; decide) (by decide) rfl rfl hs ?_
  rw [eA]
  exact wp_mono K (fun k v h' z => wp_ret_weak (re_sb_at rfl (re_sb_at rfl (re_sb_nil _))) z)
set_option maxRecDepth 20000 in
theorem L588_278 {SC : List Value} {d s : Nat} {h : re_H} {Q : Nat → Value → re_H → Prop} {a1 : Nat} {a3 : Nat} {ls0 : Int64} {ls1 : Int64}
    (K1 : ¬ ls1 = ls0 → wp SC 588 d s 302 [] [] h Q) (K2 : ls1 = ls0 → wp SC 588 d s 282 [(1, .ref a1), (3, .ref a3)] [] h Q) : wp SC 588 d s 278 [(1, .ref a1), (3, .ref a3)] [.long ls0, .long ls1] h Q := by
  refine wp_run 1 (pc' := 279) (lv' := [(1, .ref a1), (3, .ref a3)]) (st' := [.int (lg_cmp ls1 ls0)]) rfl ?_
  exact wp_if ⟨rfl, rfl⟩ rfl (fun hc => wp_weak (re_sb_nil _) (K1 (lc1_ne hc))) (fun hc => wp_weak (re_sb_at rfl (re_sb_at rfl (re_sb_nil _))) (K2 (lc0_ne hc)))
set_option maxRecDepth 20000 in
theorem L588_282 {SC : List Value} {d s : Nat} {h : re_H} {Q : Nat → Value → re_H → Prop} {a1 : Nat} {a3 : Nat}
    {xe1 : Int32} (e2 : nb_ar h a3 100 (i32 1) (.int xe1)) {xe3 : Int32} (e4 : nb_ar h a3 100 (i32 2) (.int xe3)) {xe5 : Int32} (e6 : nb_ar h a3 100 (i32 4) (.int xe5)) {s1 s2 : Nat} (hs : s1 + s2 ≤ s) (K : wp SC 582 d s1 0 [(0, .ref a1), (1, .int xe1), (2, .int xe3), (3, .int xe5)] [] h (wp_ret SC 588 (d + 1) s2 295 [] [] Q)) : wp SC 588 (d + 1) s 282 [(1, .ref a1), (3, .ref a3)] [] h Q := by
  refine wp_run 3 (pc' := 285) (lv' := [(1, .ref a1), (3, .ref a3)]) (st' := [.int (i32 1), .ref a3, .ref a1]) rfl ?_
  obtain ⟨w2, i2, e2a, e2x, e2i, e2v⟩ := e2
  refine wp_ial ⟨rfl, rfl⟩ e2a rfl e2x e2i e2v ?_
  refine wp_run 2 (pc' := 288) (lv' := [(1, .ref a1), (3, .ref a3)]) (st' := [.int (i32 2), .ref a3, .int xe1, .ref a1]) rfl ?_
  obtain ⟨w4, i4, e4a, e4x, e4i, e4v⟩ := e4
  refine wp_ial ⟨rfl, rfl⟩ e4a rfl e4x e4i e4v ?_
  refine wp_run 2 (pc' := 291) (lv' := [(1, .ref a1), (3, .ref a3)]) (st' := [.int (i32 4), .ref a3, .int xe3, .int xe1, .ref a1]) rfl ?_
  obtain ⟨w6, i6, e6a, e6x, e6i, e6v⟩ := e6
  refine wp_ial ⟨rfl, rfl⟩ e6a rfl e6x e6i e6v ?_
  have eA : lv_args 0 ([.int xe5, .int xe3, .int xe1, .ref a1].reverse) = [(0, .ref a1), (1, .int xe1), (2, .int xe3), (3, .int xe5)] := by simp [lv_args, vc_i, vc_l, vc_r, vc_n, vc_a]
  refine wp_callS (ar := [.int xe5, .int xe3, .int xe1, .ref a1]) (rest := []) (s1 := s1) (s2 := s2) (d' := d) ⟨rfl, rfl⟩ rfl (Or.inl rfl) rfl (by simp [re_cat, vc_i, vc_l, vc_r, vc_n, vc_a]) (by rw [show re_cat ([.int xe5, .int xe3, .int xe1, .ref a1].reverse) = 4 from by simp [re_cat, vc_i, vc_l, vc_r, vc_n, vc_a]]; decide) (by decide) rfl rfl hs ?_
  rw [eA]
  exact wp_mono K (fun k v h' z => wp_ret_weak (re_sb_nil _) z)
set_option maxRecDepth 20000 in
theorem L588_295 {SC : List Value} {d s : Nat} {h : re_H} {Q : Nat → Value → re_H → Prop} {xs0 : Int32}
    (K1 : xs0 = 0 → wp SC 588 d s 302 [] [] h Q) (K2 : ¬ xs0 = 0 → wp SC 588 d s 298 [] [] h Q) : wp SC 588 d s 295 [] [.int xs0] h Q := by
  exact wp_if ⟨rfl, rfl⟩ rfl (fun hc => wp_weak (re_sb_nil _) (K1 (ic1_eq hc))) (fun hc => wp_weak (re_sb_nil _) (K2 (ic0_eq hc)))
set_option maxRecDepth 20000 in
theorem L588_298 {SC : List Value} {d s : Nat} {h : re_H} {Q : Nat → Value → re_H → Prop} 
    (K : wp SC 588 d s 303 [] [.int (i32 1)] h Q) : wp SC 588 d s 298 [] [] h Q := by
  refine wp_run 2 (pc' := 303) (lv' := []) (st' := [.int (i32 1)]) rfl ?_
  exact wp_weak (re_sb_nil _) K
set_option maxRecDepth 20000 in
theorem L588_302 {SC : List Value} {d s : Nat} {h : re_H} {Q : Nat → Value → re_H → Prop} 
    (K : wp SC 588 d s 303 [] [.int (i32 0)] h Q) : wp SC 588 d s 302 [] [] h Q := by
  refine wp_run 1 (pc' := 303) (lv' := []) (st' := [.int (i32 0)]) rfl ?_
  exact wp_weak (re_sb_nil _) K
set_option maxRecDepth 20000 in
theorem L588_303 {SC : List Value} {d s : Nat} {h : re_H} {Q : Nat → Value → re_H → Prop} {xs0 : Int32}
    (hz : xs0 = 0 ∨ xs0 = 1) (K : Q 1 (.int xs0) h) : wp SC 588 d s 303 [] [.int xs0] h Q := by
  exact wp_retz ⟨rfl, rfl⟩ rfl hz K
