set_option maxRecDepth 20000 in
theorem L578_0 {SC : List Value} {d s : Nat} {h : re_H} {Q : Nat → Value → re_H → Prop} {a0 : Nat} {x1 : Int32}
    (K : wp SC 578 d s 7 [(0, .ref a0), (1, .int x1), (2, .long (17)), (4, .int (i32 0))] [] h Q) : wp SC 578 d s 0 [(0, .ref a0), (1, .int x1)] [] h Q := by
  refine wp_cst (pc' := 3) (v := .long (17)) ⟨rfl, rfl⟩ rfl rfl rfl rfl rfl ?_
  refine wp_run 3 (pc' := 7) (lv' := [(4, .int (i32 0)), (2, .long (17)), (0, .ref a0), (1, .int x1)]) (st' := []) rfl ?_
  exact wp_weak (re_sb_at rfl (re_sb_at rfl (re_sb_at rfl (re_sb_at rfl (re_sb_nil _))))) K
set_option maxRecDepth 20000 in
theorem L578_7 {SC : List Value} {d s : Nat} {h : re_H} {Q : Nat → Value → re_H → Prop} {a0 : Nat} {x1 : Int32} {l2 : Int64} {x4 : Int32}
    (K1 : ¬ x4 < x1 → wp SC 578 d s 167 [(2, .long l2)] [] h Q) (K2 : x4 < x1 → wp SC 578 d s 13 [(0, .ref a0), (1, .int x1), (2, .long l2), (4, .int x4)] [] h Q) : wp SC 578 d s 7 [(0, .ref a0), (1, .int x1), (2, .long l2), (4, .int x4)] [] h Q := by
  refine wp_run 2 (pc' := 10) (lv' := [(0, .ref a0), (1, .int x1), (2, .long l2), (4, .int x4)]) (st' := [.int x1, .int x4]) rfl ?_
  exact wp_cmp ⟨rfl, rfl⟩ rfl (fun hc => wp_weak (re_sb_at rfl (re_sb_nil _)) (K1 (ic1_ge hc))) (fun hc => wp_weak (re_sb_at rfl (re_sb_at rfl (re_sb_at rfl (re_sb_at rfl (re_sb_nil _))))) (K2 (ic0_ge hc)))
set_option maxRecDepth 20000 in
theorem L578_13 {SC : List Value} {d s : Nat} {h : re_H} {Q : Nat → Value → re_H → Prop} {a0 : Nat} {x1 : Int32} {l2 : Int64} {x4 : Int32}
    {s1 s2 : Nat} (hs : s1 + s2 ≤ s) (K : wp SC 579 d s1 0 [(0, .ref a0), (1, .int (i32 21)), (2, .int x4), (3, .int (i32 0))] [] h (wp_ret SC 578 (d + 1) s2 22 [(0, .ref a0), (1, .int x1), (2, .long l2), (4, .int x4)] [] Q)) : wp SC 578 (d + 1) s 13 [(0, .ref a0), (1, .int x1), (2, .long l2), (4, .int x4)] [] h Q := by
  refine wp_run 1 (pc' := 14) (lv' := [(0, .ref a0), (1, .int x1), (2, .long l2), (4, .int x4)]) (st' := [.ref a0]) rfl ?_
  refine wp_bi (x := (i32 21)) ⟨rfl, rfl⟩ (by decide) ?_
  refine wp_run 2 (pc' := 19) (lv' := [(0, .ref a0), (1, .int x1), (2, .long l2), (4, .int x4)]) (st' := [.int (i32 0), .int x4, .int (i32 21), .ref a0]) rfl ?_
  have eA : lv_args 0 ([.int (i32 0), .int x4, .int (i32 21), .ref a0].reverse) = [(0, .ref a0), (1, .int (i32 21)), (2, .int x4), (3, .int (i32 0))] := by simp [lv_args, vc_i, vc_l, vc_r, vc_n, vc_a]
  refine wp_callS (ar := [.int (i32 0), .int x4, .int (i32 21), .ref a0]) (rest := []) (s1 := s1) (s2 := s2) (d' := d) ⟨rfl, rfl⟩ rfl (Or.inr (Or.inr rfl)) rfl (by simp [re_cat, vc_i, vc_l, vc_r, vc_n, vc_a]) (by rw [show re_cat ([.int (i32 0), .int x4, .int (i32 21), .ref a0].reverse) = 4 from by simp [re_cat, vc_i, vc_l, vc_r, vc_n, vc_a]]; decide) (by decide) rfl rfl hs ?_
  rw [eA]
  exact wp_mono K (fun k v h' z => wp_ret_weak (re_sb_at rfl (re_sb_at rfl (re_sb_at rfl (re_sb_at rfl (re_sb_nil _))))) z)
set_option maxRecDepth 20000 in
theorem L578_22 {SC : List Value} {d s : Nat} {h : re_H} {Q : Nat → Value → re_H → Prop} {a0 : Nat} {x1 : Int32} {l2 : Int64} {x4 : Int32} {ls0 : Int64}
    (K1 : ¬ ls0 = (-2000000001) → wp SC 578 d s 42 [(0, .ref a0), (1, .int x1), (2, .long l2), (4, .int x4)] [] h Q) (K2 : ls0 = (-2000000001) → wp SC 578 d s 29 [(0, .ref a0), (1, .int x1), (2, .long l2), (4, .int x4)] [] h Q) : wp SC 578 d s 22 [(0, .ref a0), (1, .int x1), (2, .long l2), (4, .int x4)] [.long ls0] h Q := by
  refine wp_cst (pc' := 25) (v := .long (-2000000001)) ⟨rfl, rfl⟩ rfl rfl rfl rfl rfl ?_
  refine wp_run 1 (pc' := 26) (lv' := [(0, .ref a0), (1, .int x1), (2, .long l2), (4, .int x4)]) (st' := [.int (lg_cmp ls0 (-2000000001))]) rfl ?_
  exact wp_if ⟨rfl, rfl⟩ rfl (fun hc => wp_weak (re_sb_at rfl (re_sb_at rfl (re_sb_at rfl (re_sb_at rfl (re_sb_nil _))))) (K1 (lc1_ne hc))) (fun hc => wp_weak (re_sb_at rfl (re_sb_at rfl (re_sb_at rfl (re_sb_at rfl (re_sb_nil _))))) (K2 (lc0_ne hc)))
set_option maxRecDepth 20000 in
theorem L578_29 {SC : List Value} {d s : Nat} {h : re_H} {Q : Nat → Value → re_H → Prop} {a0 : Nat} {x1 : Int32} {l2 : Int64} {x4 : Int32}
    (K : wp SC 578 d s 161 [(0, .ref a0), (1, .int x1), (2, .long ((l2 * (31)) + (7))), (4, .int x4)] [] h Q) : wp SC 578 d s 29 [(0, .ref a0), (1, .int x1), (2, .long l2), (4, .int x4)] [] h Q := by
  refine wp_run 1 (pc' := 30) (lv' := [(0, .ref a0), (1, .int x1), (2, .long l2), (4, .int x4)]) (st' := [.long l2]) rfl ?_
  refine wp_cst (pc' := 33) (v := .long (31)) ⟨rfl, rfl⟩ rfl rfl rfl rfl rfl ?_
  refine wp_run 1 (pc' := 34) (lv' := [(0, .ref a0), (1, .int x1), (2, .long l2), (4, .int x4)]) (st' := [.long (l2 * (31))]) rfl ?_
  refine wp_cst (pc' := 37) (v := .long (7)) ⟨rfl, rfl⟩ rfl rfl rfl rfl rfl ?_
  refine wp_run 3 (pc' := 161) (lv' := [(2, .long ((l2 * (31)) + (7))), (0, .ref a0), (1, .int x1), (4, .int x4)]) (st' := []) rfl ?_
  exact wp_weak (re_sb_at rfl (re_sb_at rfl (re_sb_at rfl (re_sb_at rfl (re_sb_nil _))))) K
set_option maxRecDepth 20000 in
theorem L578_42 {SC : List Value} {d s : Nat} {h : re_H} {Q : Nat → Value → re_H → Prop} {a0 : Nat} {x1 : Int32} {l2 : Int64} {x4 : Int32}
    {c : Nat} {w : List Value} (eg : re_hg h a0 = some (c, w)) (ec : c = 0) {s1 s2 : Nat} (hs : s1 + s2 ≤ s) (K : wp SC 31 d s1 0 [(0, .ref a0), (1, .int x4)] [] h (wp_ret SC 578 (d + 1) s2 53 [(0, .ref a0), (1, .int x1), (4, .int x4)] [.long (l2 * (31))] Q)) : wp SC 578 (d + 1) s 42 [(0, .ref a0), (1, .int x1), (2, .long l2), (4, .int x4)] [] h Q := by
  refine wp_run 1 (pc' := 43) (lv' := [(0, .ref a0), (1, .int x1), (2, .long l2), (4, .int x4)]) (st' := [.long l2]) rfl ?_
  refine wp_cst (pc' := 46) (v := .long (31)) ⟨rfl, rfl⟩ rfl rfl rfl rfl rfl ?_
  refine wp_run 3 (pc' := 50) (lv' := [(0, .ref a0), (1, .int x1), (2, .long l2), (4, .int x4)]) (st' := [.int x4, .ref a0, .long (l2 * (31))]) rfl ?_
  have eA : lv_args 0 (.ref a0 :: [.int x4].reverse) = [(0, .ref a0), (1, .int x4)] := by simp [lv_args, vc_i, vc_l, vc_r, vc_n, vc_a]
  refine wp_callV (ar := [.int x4]) (rest := [.long (l2 * (31))]) (s1 := s1) (s2 := s2) (d' := d) ⟨rfl, rfl⟩ rfl (Or.inl rfl)  (by simp [re_cat, vc_i, vc_l, vc_r, vc_n, vc_a]) (by rw [show re_cat (.ref a0 :: [.int x4].reverse) = 2 from by simp [re_cat, vc_i, vc_l, vc_r, vc_n, vc_a]]; decide) (by decide) rfl eg ec rfl hs ?_
  rw [eA]
  exact wp_mono K (fun k v h' z => wp_ret_weak (re_sb_at rfl (re_sb_at rfl (re_sb_at rfl (re_sb_nil _)))) z)
set_option maxRecDepth 20000 in
theorem L578_53 {SC : List Value} {d s : Nat} {h : re_H} {Q : Nat → Value → re_H → Prop} {a0 : Nat} {x1 : Int32} {x4 : Int32} {xs0 : Int32} {ls1 : Int64}
    {c : Nat} {w : List Value} (eg : re_hg h a0 = some (c, w)) (ec : c = 0) {s1 s2 : Nat} (hs : s1 + s2 ≤ s) (K : wp SC 32 d s1 0 [(0, .ref a0), (1, .int x4)] [] h (wp_ret SC 578 (d + 1) s2 65 [(0, .ref a0), (1, .int x1), (4, .int x4)] [.long ((ls1 + xs0.toInt64) * (31))] Q)) : wp SC 578 (d + 1) s 53 [(0, .ref a0), (1, .int x1), (4, .int x4)] [.int xs0, .long ls1] h Q := by
  refine wp_run 2 (pc' := 55) (lv' := [(0, .ref a0), (1, .int x1), (4, .int x4)]) (st' := [.long (ls1 + xs0.toInt64)]) rfl ?_
  refine wp_cst (pc' := 58) (v := .long (31)) ⟨rfl, rfl⟩ rfl rfl rfl rfl rfl ?_
  refine wp_run 3 (pc' := 62) (lv' := [(0, .ref a0), (1, .int x1), (4, .int x4)]) (st' := [.int x4, .ref a0, .long ((ls1 + xs0.toInt64) * (31))]) rfl ?_
  have eA : lv_args 0 (.ref a0 :: [.int x4].reverse) = [(0, .ref a0), (1, .int x4)] := by simp [lv_args, vc_i, vc_l, vc_r, vc_n, vc_a]
  refine wp_callV (ar := [.int x4]) (rest := [.long ((ls1 + xs0.toInt64) * (31))]) (s1 := s1) (s2 := s2) (d' := d) ⟨rfl, rfl⟩ rfl (Or.inl rfl)  (by simp [re_cat, vc_i, vc_l, vc_r, vc_n, vc_a]) (by rw [show re_cat (.ref a0 :: [.int x4].reverse) = 2 from by simp [re_cat, vc_i, vc_l, vc_r, vc_n, vc_a]]; decide) (by decide) rfl eg ec rfl hs ?_
  rw [eA]
  exact wp_mono K (fun k v h' z => wp_ret_weak (re_sb_at rfl (re_sb_at rfl (re_sb_at rfl (re_sb_nil _)))) z)
set_option maxRecDepth 20000 in
theorem L578_65 {SC : List Value} {d s : Nat} {h : re_H} {Q : Nat → Value → re_H → Prop} {a0 : Nat} {x1 : Int32} {x4 : Int32} {xs0 : Int32} {ls1 : Int64}
    (K1 : xs0 = 0 → wp SC 578 d s 72 [(0, .ref a0), (1, .int x1), (4, .int x4)] [.long ls1] h Q) (K2 : ¬ xs0 = 0 → wp SC 578 d s 68 [(0, .ref a0), (1, .int x1), (4, .int x4)] [.long ls1] h Q) : wp SC 578 d s 65 [(0, .ref a0), (1, .int x1), (4, .int x4)] [.int xs0, .long ls1] h Q := by
  exact wp_if ⟨rfl, rfl⟩ rfl (fun hc => wp_weak (re_sb_at rfl (re_sb_at rfl (re_sb_at rfl (re_sb_nil _)))) (K1 (ic1_eq hc))) (fun hc => wp_weak (re_sb_at rfl (re_sb_at rfl (re_sb_at rfl (re_sb_nil _)))) (K2 (ic0_eq hc)))
set_option maxRecDepth 20000 in
theorem L578_68 {SC : List Value} {d s : Nat} {h : re_H} {Q : Nat → Value → re_H → Prop} {a0 : Nat} {x1 : Int32} {x4 : Int32} {ls0 : Int64}
    (K : wp SC 578 d s 73 [(0, .ref a0), (1, .int x1), (4, .int x4)] [.int (i32 1), .long ls0] h Q) : wp SC 578 d s 68 [(0, .ref a0), (1, .int x1), (4, .int x4)] [.long ls0] h Q := by
  refine wp_run 2 (pc' := 73) (lv' := [(0, .ref a0), (1, .int x1), (4, .int x4)]) (st' := [.int (i32 1), .long ls0]) rfl ?_
  exact wp_weak (re_sb_at rfl (re_sb_at rfl (re_sb_at rfl (re_sb_nil _)))) K
set_option maxRecDepth 20000 in
theorem L578_72 {SC : List Value} {d s : Nat} {h : re_H} {Q : Nat → Value → re_H → Prop} {a0 : Nat} {x1 : Int32} {x4 : Int32} {ls0 : Int64}
    (K : wp SC 578 d s 73 [(0, .ref a0), (1, .int x1), (4, .int x4)] [.int (i32 0), .long ls0] h Q) : wp SC 578 d s 72 [(0, .ref a0), (1, .int x1), (4, .int x4)] [.long ls0] h Q := by
  refine wp_run 1 (pc' := 73) (lv' := [(0, .ref a0), (1, .int x1), (4, .int x4)]) (st' := [.int (i32 0), .long ls0]) rfl ?_
  exact wp_weak (re_sb_at rfl (re_sb_at rfl (re_sb_at rfl (re_sb_nil _)))) K
set_option maxRecDepth 20000 in
theorem L578_73 {SC : List Value} {d s : Nat} {h : re_H} {Q : Nat → Value → re_H → Prop} {a0 : Nat} {x1 : Int32} {x4 : Int32} {xs0 : Int32} {ls1 : Int64}
    {c : Nat} {w : List Value} (eg : re_hg h a0 = some (c, w)) (ec : c = 0) {s1 s2 : Nat} (hs : s1 + s2 ≤ s) (K : wp SC 39 d s1 0 [(0, .ref a0), (1, .int x4)] [] h (wp_ret SC 578 (d + 1) s2 85 [(0, .ref a0), (1, .int x1), (4, .int x4)] [.long ((ls1 + xs0.toInt64) * (1009))] Q)) : wp SC 578 (d + 1) s 73 [(0, .ref a0), (1, .int x1), (4, .int x4)] [.int xs0, .long ls1] h Q := by
  refine wp_run 2 (pc' := 75) (lv' := [(0, .ref a0), (1, .int x1), (4, .int x4)]) (st' := [.long (ls1 + xs0.toInt64)]) rfl ?_
  refine wp_cst (pc' := 78) (v := .long (1009)) ⟨rfl, rfl⟩ rfl rfl rfl rfl rfl ?_
  refine wp_run 3 (pc' := 82) (lv' := [(0, .ref a0), (1, .int x1), (4, .int x4)]) (st' := [.int x4, .ref a0, .long ((ls1 + xs0.toInt64) * (1009))]) rfl ?_
  have eA : lv_args 0 (.ref a0 :: [.int x4].reverse) = [(0, .ref a0), (1, .int x4)] := by simp [lv_args, vc_i, vc_l, vc_r, vc_n, vc_a]
  refine wp_callV (ar := [.int x4]) (rest := [.long ((ls1 + xs0.toInt64) * (1009))]) (s1 := s1) (s2 := s2) (d' := d) ⟨rfl, rfl⟩ rfl (Or.inl rfl)  (by simp [re_cat, vc_i, vc_l, vc_r, vc_n, vc_a]) (by rw [show re_cat (.ref a0 :: [.int x4].reverse) = 2 from by simp [re_cat, vc_i, vc_l, vc_r, vc_n, vc_a]]; decide) (by decide) rfl eg ec rfl hs ?_
  rw [eA]
  exact wp_mono K (fun k v h' z => wp_ret_weak (re_sb_at rfl (re_sb_at rfl (re_sb_at rfl (re_sb_nil _)))) z)
set_option maxRecDepth 20000 in
theorem L578_85 {SC : List Value} {d s : Nat} {h : re_H} {Q : Nat → Value → re_H → Prop} {a0 : Nat} {x1 : Int32} {x4 : Int32} {xs0 : Int32} {ls1 : Int64}
    {c : Nat} {w : List Value} (eg : re_hg h a0 = some (c, w)) (ec : c = 0) {s1 s2 : Nat} (hs : s1 + s2 ≤ s) (K : wp SC 37 d s1 0 [(0, .ref a0), (1, .int x4)] [] h (wp_ret SC 578 (d + 1) s2 99 [(0, .ref a0), (1, .int x1), (4, .int x4)] [.long ((ls1 + xs0.toInt64) * (65537))] Q)) : wp SC 578 (d + 1) s 85 [(0, .ref a0), (1, .int x1), (4, .int x4)] [.int xs0, .long ls1] h Q := by
  refine wp_run 4 (pc' := 89) (lv' := [(2, .long (ls1 + xs0.toInt64)), (0, .ref a0), (1, .int x1), (4, .int x4)]) (st' := [.long (ls1 + xs0.toInt64)]) rfl ?_
  refine wp_cst (pc' := 92) (v := .long (65537)) ⟨rfl, rfl⟩ rfl rfl rfl rfl rfl ?_
  refine wp_run 3 (pc' := 96) (lv' := [(2, .long (ls1 + xs0.toInt64)), (0, .ref a0), (1, .int x1), (4, .int x4)]) (st' := [.int x4, .ref a0, .long ((ls1 + xs0.toInt64) * (65537))]) rfl ?_
  have eA : lv_args 0 (.ref a0 :: [.int x4].reverse) = [(0, .ref a0), (1, .int x4)] := by simp [lv_args, vc_i, vc_l, vc_r, vc_n, vc_a]
  refine wp_callV (ar := [.int x4]) (rest := [.long ((ls1 + xs0.toInt64) * (65537))]) (s1 := s1) (s2 := s2) (d' := d) ⟨rfl, rfl⟩ rfl (Or.inl rfl)  (by simp [re_cat, vc_i, vc_l, vc_r, vc_n, vc_a]) (by rw [show re_cat (.ref a0 :: [.int x4].reverse) = 2 from by simp [re_cat, vc_i, vc_l, vc_r, vc_n, vc_a]]; decide) (by decide) rfl eg ec rfl hs ?_
  rw [eA]
  exact wp_mono K (fun k v h' z => wp_ret_weak (re_sb_at rfl (re_sb_at rfl (re_sb_at rfl (re_sb_nil _)))) z)
set_option maxRecDepth 20000 in
theorem L578_99 {SC : List Value} {d s : Nat} {h : re_H} {Q : Nat → Value → re_H → Prop} {a0 : Nat} {x1 : Int32} {x4 : Int32} {xs0 : Int32} {ls1 : Int64}
    {c : Nat} {w : List Value} (eg : re_hg h a0 = some (c, w)) (ec : c = 0) {s1 s2 : Nat} (hs : s1 + s2 ≤ s) (K : wp SC 38 d s1 0 [(0, .ref a0), (1, .int x4)] [] h (wp_ret SC 578 (d + 1) s2 111 [(0, .ref a0), (1, .int x1), (4, .int x4)] [.long ((ls1 + xs0.toInt64) * (4099))] Q)) : wp SC 578 (d + 1) s 99 [(0, .ref a0), (1, .int x1), (4, .int x4)] [.int xs0, .long ls1] h Q := by
  refine wp_run 2 (pc' := 101) (lv' := [(0, .ref a0), (1, .int x1), (4, .int x4)]) (st' := [.long (ls1 + xs0.toInt64)]) rfl ?_
  refine wp_cst (pc' := 104) (v := .long (4099)) ⟨rfl, rfl⟩ rfl rfl rfl rfl rfl ?_
  refine wp_run 3 (pc' := 108) (lv' := [(0, .ref a0), (1, .int x1), (4, .int x4)]) (st' := [.int x4, .ref a0, .long ((ls1 + xs0.toInt64) * (4099))]) rfl ?_
  have eA : lv_args 0 (.ref a0 :: [.int x4].reverse) = [(0, .ref a0), (1, .int x4)] := by simp [lv_args, vc_i, vc_l, vc_r, vc_n, vc_a]
  refine wp_callV (ar := [.int x4]) (rest := [.long ((ls1 + xs0.toInt64) * (4099))]) (s1 := s1) (s2 := s2) (d' := d) ⟨rfl, rfl⟩ rfl (Or.inl rfl)  (by simp [re_cat, vc_i, vc_l, vc_r, vc_n, vc_a]) (by rw [show re_cat (.ref a0 :: [.int x4].reverse) = 2 from by simp [re_cat, vc_i, vc_l, vc_r, vc_n, vc_a]]; decide) (by decide) rfl eg ec rfl hs ?_
  rw [eA]
  exact wp_mono K (fun k v h' z => wp_ret_weak (re_sb_at rfl (re_sb_at rfl (re_sb_at rfl (re_sb_nil _)))) z)
set_option maxRecDepth 20000 in
theorem L578_111 {SC : List Value} {d s : Nat} {h : re_H} {Q : Nat → Value → re_H → Prop} {a0 : Nat} {x1 : Int32} {x4 : Int32} {xs0 : Int32} {ls1 : Int64}
    (K : wp SC 578 d s 117 [(0, .ref a0), (1, .int x1), (2, .long (ls1 + xs0.toInt64)), (4, .int x4), (5, .int (i32 0))] [] h Q) : wp SC 578 d s 111 [(0, .ref a0), (1, .int x1), (4, .int x4)] [.int xs0, .long ls1] h Q := by
  refine wp_run 5 (pc' := 117) (lv' := [(5, .int (i32 0)), (2, .long (ls1 + xs0.toInt64)), (0, .ref a0), (1, .int x1), (4, .int x4)]) (st' := []) rfl ?_
  exact wp_weak (re_sb_at rfl (re_sb_at rfl (re_sb_at rfl (re_sb_at rfl (re_sb_at rfl (re_sb_nil _)))))) K
set_option maxRecDepth 20000 in
theorem L578_117 {SC : List Value} {d s : Nat} {h : re_H} {Q : Nat → Value → re_H → Prop} {a0 : Nat} {x1 : Int32} {l2 : Int64} {x4 : Int32} {x5 : Int32}
    (K1 : ¬ x5 < (i32 6) → wp SC 578 d s 161 [(0, .ref a0), (1, .int x1), (2, .long l2), (4, .int x4)] [] h Q) (K2 : x5 < (i32 6) → wp SC 578 d s 124 [(0, .ref a0), (1, .int x1), (2, .long l2), (4, .int x4), (5, .int x5)] [] h Q) : wp SC 578 d s 117 [(0, .ref a0), (1, .int x1), (2, .long l2), (4, .int x4), (5, .int x5)] [] h Q := by
  refine wp_run 1 (pc' := 119) (lv' := [(0, .ref a0), (1, .int x1), (2, .long l2), (4, .int x4), (5, .int x5)]) (st' := [.int x5]) rfl ?_
  refine wp_bi (x := (i32 6)) ⟨rfl, rfl⟩ (by decide) ?_
  exact wp_cmp ⟨rfl, rfl⟩ rfl (fun hc => wp_weak (re_sb_at rfl (re_sb_at rfl (re_sb_at rfl (re_sb_at rfl (re_sb_nil _))))) (K1 (ic1_ge hc))) (fun hc => wp_weak (re_sb_at rfl (re_sb_at rfl (re_sb_at rfl (re_sb_at rfl (re_sb_at rfl (re_sb_nil _)))))) (K2 (ic0_ge hc)))
set_option maxRecDepth 20000 in
theorem L578_124 {SC : List Value} {d s : Nat} {h : re_H} {Q : Nat → Value → re_H → Prop} {a0 : Nat} {x1 : Int32} {l2 : Int64} {x4 : Int32} {x5 : Int32}
    {c : Nat} {w : List Value} (eg : re_hg h a0 = some (c, w)) (ec : c = 0) {s1 s2 : Nat} (hs : s1 + s2 ≤ s) (K : wp SC 33 d s1 0 [(0, .ref a0), (1, .int x4), (2, .int x5)] [] h (wp_ret SC 578 (d + 1) s2 137 [(0, .ref a0), (1, .int x1), (4, .int x4), (5, .int x5)] [.long (l2 * (3))] Q)) : wp SC 578 (d + 1) s 124 [(0, .ref a0), (1, .int x1), (2, .long l2), (4, .int x4), (5, .int x5)] [] h Q := by
  refine wp_run 1 (pc' := 125) (lv' := [(0, .ref a0), (1, .int x1), (2, .long l2), (4, .int x4), (5, .int x5)]) (st' := [.long l2]) rfl ?_
  refine wp_cst (pc' := 128) (v := .long (3)) ⟨rfl, rfl⟩ rfl rfl rfl rfl rfl ?_
  refine wp_run 4 (pc' := 134) (lv' := [(0, .ref a0), (1, .int x1), (2, .long l2), (4, .int x4), (5, .int x5)]) (st' := [.int x5, .int x4, .ref a0, .long (l2 * (3))]) rfl ?_
  have eA : lv_args 0 (.ref a0 :: [.int x5, .int x4].reverse) = [(0, .ref a0), (1, .int x4), (2, .int x5)] := by simp [lv_args, vc_i, vc_l, vc_r, vc_n, vc_a]
  refine wp_callV (ar := [.int x5, .int x4]) (rest := [.long (l2 * (3))]) (s1 := s1) (s2 := s2) (d' := d) ⟨rfl, rfl⟩ rfl (Or.inl rfl)  (by simp [re_cat, vc_i, vc_l, vc_r, vc_n, vc_a]) (by rw [show re_cat (.ref a0 :: [.int x5, .int x4].reverse) = 3 from by simp [re_cat, vc_i, vc_l, vc_r, vc_n, vc_a]]; decide) (by decide) rfl eg ec rfl hs ?_
  rw [eA]
  exact wp_mono K (fun k v h' z => wp_ret_weak (re_sb_at rfl (re_sb_at rfl (re_sb_at rfl (re_sb_at rfl (re_sb_nil _))))) z)
set_option maxRecDepth 20000 in
theorem L578_137 {SC : List Value} {d s : Nat} {h : re_H} {Q : Nat → Value → re_H → Prop} {a0 : Nat} {x1 : Int32} {x4 : Int32} {x5 : Int32} {xs0 : Int32} {ls1 : Int64}
    {s1 s2 : Nat} (hs : s1 + s2 ≤ s) (K : wp SC 579 d s1 0 [(0, .ref a0), (1, .int (i32 24)), (2, .int x4), (3, .int x5)] [] h (wp_ret SC 578 (d + 1) s2 153 [(0, .ref a0), (1, .int x1), (4, .int x4), (5, .int x5)] [.long ((ls1 + xs0.toInt64) * (1000003))] Q)) : wp SC 578 (d + 1) s 137 [(0, .ref a0), (1, .int x1), (4, .int x4), (5, .int x5)] [.int xs0, .long ls1] h Q := by
  refine wp_run 2 (pc' := 139) (lv' := [(0, .ref a0), (1, .int x1), (4, .int x4), (5, .int x5)]) (st' := [.long (ls1 + xs0.toInt64)]) rfl ?_
  refine wp_cst (pc' := 142) (v := .long (1000003)) ⟨rfl, rfl⟩ rfl rfl rfl rfl rfl ?_
  refine wp_run 2 (pc' := 144) (lv' := [(0, .ref a0), (1, .int x1), (4, .int x4), (5, .int x5)]) (st' := [.ref a0, .long ((ls1 + xs0.toInt64) * (1000003))]) rfl ?_
  refine wp_bi (x := (i32 24)) ⟨rfl, rfl⟩ (by decide) ?_
  refine wp_run 2 (pc' := 150) (lv' := [(0, .ref a0), (1, .int x1), (4, .int x4), (5, .int x5)]) (st' := [.int x5, .int x4, .int (i32 24), .ref a0, .long ((ls1 + xs0.toInt64) * (1000003))]) rfl ?_
  have eA : lv_args 0 ([.int x5, .int x4, .int (i32 24), .ref a0].reverse) = [(0, .ref a0), (1, .int (i32 24)), (2, .int x4), (3, .int x5)] := by simp [lv_args, vc_i, vc_l, vc_r, vc_n, vc_a]
  refine wp_callS (ar := [.int x5, .int x4, .int (i32 24), .ref a0]) (rest := [.long ((ls1 + xs0.toInt64) * (1000003))]) (s1 := s1) (s2 := s2) (d' := d) ⟨rfl, rfl⟩ rfl (Or.inr (Or.inr rfl)) rfl (by simp [re_cat, vc_i, vc_l, vc_r, vc_n, vc_a]) (by rw [show re_cat ([.int x5, .int x4, .int (i32 24), .ref a0].reverse) = 4 from by simp [re_cat, vc_i, vc_l, vc_r, vc_n, vc_a]]; decide) (by decide) rfl rfl hs ?_
  rw [eA]
  exact wp_mono K (fun k v h' z => wp_ret_weak (re_sb_at rfl (re_sb_at rfl (re_sb_at rfl (re_sb_at rfl (re_sb_nil _))))) z)
set_option maxRecDepth 20000 in
theorem L578_153 {SC : List Value} {d s : Nat} {h : re_H} {Q : Nat → Value → re_H → Prop} {a0 : Nat} {x1 : Int32} {x4 : Int32} {x5 : Int32} {ls0 : Int64} {ls1 : Int64}
    (K : wp SC 578 d s 117 [(0, .ref a0), (1, .int x1), (2, .long (ls1 + ls0)), (4, .int x4), (5, .int (x5 + (i32 1)))] [] h Q) : wp SC 578 d s 153 [(0, .ref a0), (1, .int x1), (4, .int x4), (5, .int x5)] [.long ls0, .long ls1] h Q := by
  refine wp_run 4 (pc' := 117) (lv' := [(5, .int (x5 + (i32 1))), (2, .long (ls1 + ls0)), (0, .ref a0), (1, .int x1), (4, .int x4)]) (st' := []) rfl ?_
  exact wp_weak (re_sb_at rfl (re_sb_at rfl (re_sb_at rfl (re_sb_at rfl (re_sb_at rfl (re_sb_nil _)))))) K
set_option maxRecDepth 20000 in
theorem L578_161 {SC : List Value} {d s : Nat} {h : re_H} {Q : Nat → Value → re_H → Prop} {a0 : Nat} {x1 : Int32} {l2 : Int64} {x4 : Int32}
    (K : wp SC 578 d s 7 [(0, .ref a0), (1, .int x1), (2, .long l2), (4, .int (x4 + (i32 1)))] [] h Q) : wp SC 578 d s 161 [(0, .ref a0), (1, .int x1), (2, .long l2), (4, .int x4)] [] h Q := by
  refine wp_run 2 (pc' := 7) (lv' := [(4, .int (x4 + (i32 1))), (0, .ref a0), (1, .int x1), (2, .long l2)]) (st' := []) rfl ?_
  exact wp_weak (re_sb_at rfl (re_sb_at rfl (re_sb_at rfl (re_sb_at rfl (re_sb_nil _))))) K
set_option maxRecDepth 20000 in
theorem L578_167 {SC : List Value} {d s : Nat} {h : re_H} {Q : Nat → Value → re_H → Prop} {l2 : Int64}
    (K : Q 2 (.long l2) h) : wp SC 578 d s 167 [(2, .long l2)] [] h Q := by
  refine wp_run 1 (pc' := 168) (lv' := [(2, .long l2)]) (st' := [.long l2]) rfl ?_
  exact wp_retl ⟨rfl, rfl⟩ rfl K
theorem L581_0 {SC : List Value} {d s : Nat} {h : re_H} {Q : Nat → Value → re_H → Prop} {a0 : Nat} {a1 : Nat} {x2 : Int32} {x3 : Int32} {x4 : Int32}
    {s1 s2 : Nat} (hs : s1 + s2 ≤ s) (K : wp SC 579 d s1 0 [(0, .ref a0), (1, .int x2), (2, .int x3), (3, .int x4)] [] h (wp_ret SC 581 (d + 1) s2 8 [(1, .ref a1), (2, .int x2), (3, .int x3), (4, .int x4)] [] Q)) : wp SC 581 (d + 1) s 0 [(0, .ref a0), (1, .ref a1), (2, .int x2), (3, .int x3), (4, .int x4)] [] h Q := by
  refine wp_run 4 (pc' := 5) (lv' := [(0, .ref a0), (1, .ref a1), (2, .int x2), (3, .int x3), (4, .int x4)]) (st' := [.int x4, .int x3, .int x2, .ref a0]) rfl ?_
  have eA : lv_args 0 ([.int x4, .int x3, .int x2, .ref a0].reverse) = [(0, .ref a0), (1, .int x2), (2, .int x3), (3, .int x4)] := by simp [lv_args, vc_i, vc_l, vc_r, vc_n, vc_a]
  refine wp_callS (ar := [.int x4, .int x3, .int x2, .ref a0]) (rest := []) (s1 := s1) (s2 := s2) (d' := d) ⟨rfl, rfl⟩ rfl (Or.inr (Or.inr rfl)) rfl (by simp [re_cat, vc_i, vc_l, vc_r, vc_n, vc_a]) (by rw [show re_cat ([.int x4, .int x3, .int x2, .ref a0].reverse) = 4 from by simp [re_cat, vc_i, vc_l, vc_r, vc_n, vc_a]]; decide) (by decide) rfl rfl hs ?_
  rw [eA]
  exact wp_mono K (fun k v h' z => wp_ret_weak (re_sb_at rfl (re_sb_at rfl (re_sb_at rfl (re_sb_at rfl (re_sb_nil _))))) z)
theorem L581_8 {SC : List Value} {d s : Nat} {h : re_H} {Q : Nat → Value → re_H → Prop} {a1 : Nat} {x2 : Int32} {x3 : Int32} {x4 : Int32} {ls0 : Int64}
    {s1 s2 : Nat} (hs : s1 + s2 ≤ s) (K : wp SC 579 d s1 0 [(0, .ref a1), (1, .int x2), (2, .int x3), (3, .int x4)] [] h (wp_ret SC 581 (d + 1) s2 20 [(5, .long ls0)] [.long ls0] Q)) : wp SC 581 (d + 1) s 8 [(1, .ref a1), (2, .int x2), (3, .int x3), (4, .int x4)] [.long ls0] h Q := by
  refine wp_run 6 (pc' := 17) (lv' := [(5, .long ls0), (1, .ref a1), (2, .int x2), (3, .int x3), (4, .int x4)]) (st' := [.int x4, .int x3, .int x2, .ref a1, .long ls0]) rfl ?_
  have eA : lv_args 0 ([.int x4, .int x3, .int x2, .ref a1].reverse) = [(0, .ref a1), (1, .int x2), (2, .int x3), (3, .int x4)] := by simp [lv_args, vc_i, vc_l, vc_r, vc_n, vc_a]
  refine wp_callS (ar := [.int x4, .int x3, .int x2, .ref a1]) (rest := [.long ls0]) (s1 := s1) (s2 := s2) (d' := d) ⟨rfl, rfl⟩ rfl (Or.inr (Or.inr rfl)) rfl (by simp [re_cat, vc_i, vc_l, vc_r, vc_n, vc_a]) (by rw [show re_cat ([.int x4, .int x3, .int x2, .ref a1].reverse) = 4 from by simp [re_cat, vc_i, vc_l, vc_r, vc_n, vc_a]]; decide) (by decide) rfl rfl hs ?_
  rw [eA]
  exact wp_mono K (fun k v h' z => wp_ret_weak (re_sb_at rfl (re_sb_nil _)) z)
theorem L581_20 {SC : List Value} {d s : Nat} {h : re_H} {Q : Nat → Value → re_H → Prop} {l5 : Int64} {ls0 : Int64} {ls1 : Int64}
    (K1 : ¬ ls1 = ls0 → wp SC 581 d s 29 [] [] h Q) (K2 : ls1 = ls0 → wp SC 581 d s 24 [(5, .long l5)] [] h Q) : wp SC 581 d s 20 [(5, .long l5)] [.long ls0, .long ls1] h Q := by
  refine wp_run 1 (pc' := 21) (lv' := [(5, .long l5)]) (st' := [.int (lg_cmp ls1 ls0)]) rfl ?_
  exact wp_if ⟨rfl, rfl⟩ rfl (fun hc => wp_weak (re_sb_nil _) (K1 (lc1_ne hc))) (fun hc => wp_weak (re_sb_at rfl (re_sb_nil _)) (K2 (lc0_ne hc)))
theorem L581_24 {SC : List Value} {d s : Nat} {h : re_H} {Q : Nat → Value → re_H → Prop} {l5 : Int64}
    (K : wp SC 581 d s 32 [] [.long l5] h Q) : wp SC 581 d s 24 [(5, .long l5)] [] h Q := by
  refine wp_run 2 (pc' := 32) (lv' := [(5, .long l5)]) (st' := [.long l5]) rfl ?_
  exact wp_weak (re_sb_nil _) K
theorem L581_29 {SC : List Value} {d s : Nat} {h : re_H} {Q : Nat → Value → re_H → Prop} 
    (K : wp SC 581 d s 32 [] [.long (-2000000099)] h Q) : wp SC 581 d s 29 [] [] h Q := by
  refine wp_cst (pc' := 32) (v := .long (-2000000099)) ⟨rfl, rfl⟩ rfl rfl rfl rfl rfl ?_
  exact wp_weak (re_sb_nil _) K
theorem L581_32 {SC : List Value} {d s : Nat} {h : re_H} {Q : Nat → Value → re_H → Prop} {ls0 : Int64}
    (K : Q 2 (.long ls0) h) : wp SC 581 d s 32 [] [.long ls0] h Q := by
  exact wp_retl ⟨rfl, rfl⟩ rfl K
set_option maxRecDepth 20000 in
theorem L582_0 {SC : List Value} {d s : Nat} {h : re_H} {Q : Nat → Value → re_H → Prop} {a0 : Nat} {x1 : Int32} {x2 : Int32} {x3 : Int32}
    (K : wp SC 582 d s 6 [(0, .ref a0), (1, .int x1), (2, .int x2), (3, .int x3), (4, .int (i32 1)), (5, .int (i32 0))] [] h Q) : wp SC 582 d s 0 [(0, .ref a0), (1, .int x1), (2, .int x2), (3, .int x3)] [] h Q := by
  refine wp_run 4 (pc' := 6) (lv' := [(5, .int (i32 0)), (4, .int (i32 1)), (0, .ref a0), (1, .int x1), (2, .int x2), (3, .int x3)]) (st' := []) rfl ?_
  exact wp_weak (re_sb_at rfl (re_sb_at rfl (re_sb_at rfl (re_sb_at rfl (re_sb_at rfl (re_sb_at rfl (re_sb_nil _))))))) K
set_option maxRecDepth 20000 in
theorem L582_6 {SC : List Value} {d s : Nat} {h : re_H} {Q : Nat → Value → re_H → Prop} {a0 : Nat} {x1 : Int32} {x2 : Int32} {x3 : Int32} {x4 : Int32} {x5 : Int32}
    (K1 : ¬ x5 < x1 → wp SC 582 d s 334 [(4, .int x4)] [] h Q) (K2 : x5 < x1 → wp SC 582 d s 12 [(0, .ref a0), (1, .int x1), (2, .int x2), (3, .int x3), (4, .int x4), (5, .int x5)] [] h Q) : wp SC 582 d s 6 [(0, .ref a0), (1, .int x1), (2, .int x2), (3, .int x3), (4, .int x4), (5, .int x5)] [] h Q := by
  refine wp_run 2 (pc' := 9) (lv' := [(0, .ref a0), (1, .int x1), (2, .int x2), (3, .int x3), (4, .int x4), (5, .int x5)]) (st' := [.int x1, .int x5]) rfl ?_
  exact wp_cmp ⟨rfl, rfl⟩ rfl (fun hc => wp_weak (re_sb_at rfl (re_sb_nil _)) (K1 (ic1_ge hc))) (fun hc => wp_weak (re_sb_at rfl (re_sb_at rfl (re_sb_at rfl (re_sb_at rfl (re_sb_at rfl (re_sb_at rfl (re_sb_nil _))))))) (K2 (ic0_ge hc)))
set_option maxRecDepth 20000 in
theorem L582_12 {SC : List Value} {d s : Nat} {h : re_H} {Q : Nat → Value → re_H → Prop} {a0 : Nat} {x1 : Int32} {x2 : Int32} {x3 : Int32} {x4 : Int32} {x5 : Int32}
    (K1 : x4 = 0 → wp SC 582 d s 334 [(4, .int x4)] [] h Q) (K2 : ¬ x4 = 0 → wp SC 582 d s 17 [(0, .ref a0), (1, .int x1), (2, .int x2), (3, .int x3), (4, .int x4), (5, .int x5)] [] h Q) : wp SC 582 d s 12 [(0, .ref a0), (1, .int x1), (2, .int x2), (3, .int x3), (4, .int x4), (5, .int x5)] [] h Q := by
  refine wp_run 1 (pc' := 14) (lv' := [(0, .ref a0), (1, .int x1), (2, .int x2), (3, .int x3), (4, .int x4), (5, .int x5)]) (st' := [.int x4]) rfl ?_
  exact wp_if ⟨rfl, rfl⟩ rfl (fun hc => wp_weak (re_sb_at rfl (re_sb_nil _)) (K1 (ic1_eq hc))) (fun hc => wp_weak (re_sb_at rfl (re_sb_at rfl (re_sb_at rfl (re_sb_at rfl (re_sb_at rfl (re_sb_at rfl (re_sb_nil _))))))) (K2 (ic0_eq hc)))
set_option maxRecDepth 20000 in
theorem L582_17 {SC : List Value} {d s : Nat} {h : re_H} {Q : Nat → Value → re_H → Prop} {a0 : Nat} {x1 : Int32} {x2 : Int32} {x3 : Int32} {x4 : Int32} {x5 : Int32}
    {s1 s2 : Nat} (hs : s1 + s2 ≤ s) (K : wp SC 579 d s1 0 [(0, .ref a0), (1, .int (i32 21)), (2, .int x5), (3, .int (i32 0))] [] h (wp_ret SC 582 (d + 1) s2 26 [(0, .ref a0), (1, .int x1), (2, .int x2), (3, .int x3), (4, .int x4), (5, .int x5)] [] Q)) : wp SC 582 (d + 1) s 17 [(0, .ref a0), (1, .int x1), (2, .int x2), (3, .int x3), (4, .int x4), (5, .int x5)] [] h Q := by
  refine wp_run 1 (pc' := 18) (lv' := [(0, .ref a0), (1, .int x1), (2, .int x2), (3, .int x3), (4, .int x4), (5, .int x5)]) (st' := [.ref a0]) rfl ?_
  refine wp_bi (x := (i32 21)) ⟨rfl, rfl⟩ (by decide) ?_
  refine wp_run 2 (pc' := 23) (lv' := [(0, .ref a0), (1, .int x1), (2, .int x2), (3, .int x3), (4, .int x4), (5, .int x5)]) (st' := [.int (i32 0), .int x5, .int (i32 21), .ref a0]) rfl ?_
  have eA : lv_args 0 ([.int (i32 0), .int x5, .int (i32 21), .ref a0].reverse) = [(0, .ref a0), (1, .int (i32 21)), (2, .int x5), (3, .int (i32 0))] := by simp [lv_args, vc_i, vc_l, vc_r, vc_n, vc_a]
  refine wp_callS (ar := [.int (i32 0), .int x5, .int (i32 21), .ref a0]) (rest := []) (s1 := s1) (s2 := s2) (d' := d) ⟨rfl, rfl⟩ rfl (Or.inr (Or.inr rfl)) rfl (by simp [re_cat, vc_i, vc_l, vc_r, vc_n, vc_a]) (by rw [show re_cat ([.int (i32 0), .int x5, .int (i32 21), .ref a0].reverse) = 4 from by simp [re_cat, vc_i, vc_l, vc_r, vc_n, vc_a]]; decide) (by decide) rfl rfl hs ?_
  rw [eA]
  exact wp_mono K (fun k v h' z => wp_ret_weak (re_sb_at rfl (re_sb_at rfl (re_sb_at rfl (re_sb_at rfl (re_sb_at rfl (re_sb_at rfl (re_sb_nil _))))))) z)
set_option maxRecDepth 20000 in
theorem L582_26 {SC : List Value} {d s : Nat} {h : re_H} {Q : Nat → Value → re_H → Prop} {a0 : Nat} {x1 : Int32} {x2 : Int32} {x3 : Int32} {x4 : Int32} {x5 : Int32} {ls0 : Int64}
    (K1 : ls0 = (-2000000001) → wp SC 582 d s 328 [(0, .ref a0), (1, .int x1), (2, .int x2), (3, .int x3), (4, .int x4), (5, .int x5)] [] h Q) (K2 : ¬ ls0 = (-2000000001) → wp SC 582 d s 33 [(0, .ref a0), (1, .int x1), (2, .int x2), (3, .int x3), (5, .int x5)] [] h Q) : wp SC 582 d s 26 [(0, .ref a0), (1, .int x1), (2, .int x2), (3, .int x3), (4, .int x4), (5, .int x5)] [.long ls0] h Q := by
  refine wp_cst (pc' := 29) (v := .long (-2000000001)) ⟨rfl, rfl⟩ rfl rfl rfl rfl rfl ?_
  refine wp_run 1 (pc' := 30) (lv' := [(0, .ref a0), (1, .int x1), (2, .int x2), (3, .int x3), (4, .int x4), (5, .int x5)]) (st' := [.int (lg_cmp ls0 (-2000000001))]) rfl ?_
  exact wp_if ⟨rfl, rfl⟩ rfl (fun hc => wp_weak (re_sb_at rfl (re_sb_at rfl (re_sb_at rfl (re_sb_at rfl (re_sb_at rfl (re_sb_at rfl (re_sb_nil _))))))) (K1 (lc1_eq hc))) (fun hc => wp_weak (re_sb_at rfl (re_sb_at rfl (re_sb_at rfl (re_sb_at rfl (re_sb_at rfl (re_sb_nil _)))))) (K2 (lc0_eq hc)))
set_option maxRecDepth 20000 in
theorem L582_33 {SC : List Value} {d s : Nat} {h : re_H} {Q : Nat → Value → re_H → Prop} {a0 : Nat} {x1 : Int32} {x2 : Int32} {x3 : Int32} {x5 : Int32}
    {c : Nat} {w : List Value} (eg : re_hg h a0 = some (c, w)) (ec : c = 0) {s1 s2 : Nat} (hs : s1 + s2 ≤ s) (K : wp SC 31 d s1 0 [(0, .ref a0), (1, .int x5)] [] h (wp_ret SC 582 (d + 1) s2 39 [(0, .ref a0), (1, .int x1), (2, .int x2), (3, .int x3), (5, .int x5)] [] Q)) : wp SC 582 (d + 1) s 33 [(0, .ref a0), (1, .int x1), (2, .int x2), (3, .int x3), (5, .int x5)] [] h Q := by
  refine wp_run 2 (pc' := 36) (lv' := [(0, .ref a0), (1, .int x1), (2, .int x2), (3, .int x3), (5, .int x5)]) (st' := [.int x5, .ref a0]) rfl ?_
  have eA : lv_args 0 (.ref a0 :: [.int x5].reverse) = [(0, .ref a0), (1, .int x5)] := by simp [lv_args, vc_i, vc_l, vc_r, vc_n, vc_a]
  refine wp_callV (ar := [.int x5]) (rest := []) (s1 := s1) (s2 := s2) (d' := d) ⟨rfl, rfl⟩ rfl (Or.inl rfl)  (by simp [re_cat, vc_i, vc_l, vc_r, vc_n, vc_a]) (by rw [show re_cat (.ref a0 :: [.int x5].reverse) = 2 from by simp [re_cat, vc_i, vc_l, vc_r, vc_n, vc_a]]; decide) (by decide) rfl eg ec rfl hs ?_
  rw [eA]
  exact wp_mono K (fun k v h' z => wp_ret_weak (re_sb_at rfl (re_sb_at rfl (re_sb_at rfl (re_sb_at rfl (re_sb_at rfl (re_sb_nil _)))))) z)
set_option maxRecDepth 20000 in
theorem L582_39 {SC : List Value} {d s : Nat} {h : re_H} {Q : Nat → Value → re_H → Prop} {a0 : Nat} {x1 : Int32} {x2 : Int32} {x3 : Int32} {x5 : Int32} {xs0 : Int32}
    {c : Nat} {w : List Value} (eg : re_hg h a0 = some (c, w)) (ec : c = 0) {s1 s2 : Nat} (hs : s1 + s2 ≤ s) (K : wp SC 32 d s1 0 [(0, .ref a0), (1, .int x5)] [] h (wp_ret SC 582 (d + 1) s2 47 [(0, .ref a0), (1, .int x1), (2, .int x2), (3, .int x3), (5, .int x5), (6, .int xs0)] [] Q)) : wp SC 582 (d + 1) s 39 [(0, .ref a0), (1, .int x1), (2, .int x2), (3, .int x3), (5, .int x5)] [.int xs0] h Q := by
  refine wp_run 3 (pc' := 44) (lv' := [(6, .int xs0), (0, .ref a0), (1, .int x1), (2, .int x2), (3, .int x3), (5, .int x5)]) (st' := [.int x5, .ref a0]) rfl ?_
  have eA : lv_args 0 (.ref a0 :: [.int x5].reverse) = [(0, .ref a0), (1, .int x5)] := by simp [lv_args, vc_i, vc_l, vc_r, vc_n, vc_a]
  refine wp_callV (ar := [.int x5]) (rest := []) (s1 := s1) (s2 := s2) (d' := d) ⟨rfl, rfl⟩ rfl (Or.inl rfl)  (by simp [re_cat, vc_i, vc_l, vc_r, vc_n, vc_a]) (by rw [show re_cat (.ref a0 :: [.int x5].reverse) = 2 from by simp [re_cat, vc_i, vc_l, vc_r, vc_n, vc_a]]; decide) (by decide) rfl eg ec rfl hs ?_
  rw [eA]
  exact wp_mono K (fun k v h' z => wp_ret_weak (re_sb_at rfl (re_sb_at rfl (re_sb_at rfl (re_sb_at rfl (re_sb_at rfl (re_sb_at rfl (re_sb_nil _))))))) z)
set_option maxRecDepth 20000 in
theorem L582_47 {SC : List Value} {d s : Nat} {h : re_H} {Q : Nat → Value → re_H → Prop} {a0 : Nat} {x1 : Int32} {x2 : Int32} {x3 : Int32} {x5 : Int32} {x6 : Int32} {xs0 : Int32}
    {c : Nat} {w : List Value} (eg : re_hg h a0 = some (c, w)) (ec : c = 0) {s1 s2 : Nat} (hs : s1 + s2 ≤ s) (K : wp SC 36 d s1 0 [(0, .ref a0), (1, .int x5)] [] h (wp_ret SC 582 (d + 1) s2 55 [(0, .ref a0), (1, .int x1), (2, .int x2), (3, .int x3), (5, .int x5), (6, .int x6), (7, .int xs0)] [] Q)) : wp SC 582 (d + 1) s 47 [(0, .ref a0), (1, .int x1), (2, .int x2), (3, .int x3), (5, .int x5), (6, .int x6)] [.int xs0] h Q := by
  refine wp_run 3 (pc' := 52) (lv' := [(7, .int xs0), (0, .ref a0), (1, .int x1), (2, .int x2), (3, .int x3), (5, .int x5), (6, .int x6)]) (st' := [.int x5, .ref a0]) rfl ?_
  have eA : lv_args 0 (.ref a0 :: [.int x5].reverse) = [(0, .ref a0), (1, .int x5)] := by simp [lv_args, vc_i, vc_l, vc_r, vc_n, vc_a]
  refine wp_callV (ar := [.int x5]) (rest := []) (s1 := s1) (s2 := s2) (d' := d) ⟨rfl, rfl⟩ rfl (Or.inl rfl)  (by simp [re_cat, vc_i, vc_l, vc_r, vc_n, vc_a]) (by rw [show re_cat (.ref a0 :: [.int x5].reverse) = 2 from by simp [re_cat, vc_i, vc_l, vc_r, vc_n, vc_a]]; decide) (by decide) rfl eg ec rfl hs ?_
  rw [eA]
  exact wp_mono K (fun k v h' z => wp_ret_weak (re_sb_at rfl (re_sb_at rfl (re_sb_at rfl (re_sb_at rfl (re_sb_at rfl (re_sb_at rfl (re_sb_at rfl (re_sb_nil _)))))))) z)
set_option maxRecDepth 20000 in
theorem L582_55 {SC : List Value} {d s : Nat} {h : re_H} {Q : Nat → Value → re_H → Prop} {a0 : Nat} {x1 : Int32} {x2 : Int32} {x3 : Int32} {x5 : Int32} {x6 : Int32} {x7 : Int32} {xs0 : Int32}
    (K1 : ¬ 0 < xs0 → wp SC 582 d s 72 [(0, .ref a0), (1, .int x1), (2, .int x2), (3, .int x3), (5, .int x5), (6, .int x6), (7, .int x7), (8, .int xs0)] [] h Q) (K2 : 0 < xs0 → wp SC 582 d s 62 [(0, .ref a0), (1, .int x1), (2, .int x2), (3, .int x3), (5, .int x5), (6, .int x6), (7, .int x7), (8, .int xs0)] [] h Q) : wp SC 582 d s 55 [(0, .ref a0), (1, .int x1), (2, .int x2), (3, .int x3), (5, .int x5), (6, .int x6), (7, .int x7)] [.int xs0] h Q := by
  refine wp_run 2 (pc' := 59) (lv' := [(8, .int xs0), (0, .ref a0), (1, .int x1), (2, .int x2), (3, .int x3), (5, .int x5), (6, .int x6), (7, .int x7)]) (st' := [.int xs0]) rfl ?_
  exact wp_if ⟨rfl, rfl⟩ rfl (fun hc => wp_weak (re_sb_at rfl (re_sb_at rfl (re_sb_at rfl (re_sb_at rfl (re_sb_at rfl (re_sb_at rfl (re_sb_at rfl (re_sb_at rfl (re_sb_nil _))))))))) (K1 (ic1_le hc))) (fun hc => wp_weak (re_sb_at rfl (re_sb_at rfl (re_sb_at rfl (re_sb_at rfl (re_sb_at rfl (re_sb_at rfl (re_sb_at rfl (re_sb_at rfl (re_sb_nil _))))))))) (K2 (ic0_le hc)))
set_option maxRecDepth 20000 in
theorem L582_62 {SC : List Value} {d s : Nat} {h : re_H} {Q : Nat → Value → re_H → Prop} {a0 : Nat} {x1 : Int32} {x2 : Int32} {x3 : Int32} {x5 : Int32} {x6 : Int32} {x7 : Int32} {x8 : Int32}
    (K1 : ¬ x8 < (i32 4) → wp SC 582 d s 72 [(0, .ref a0), (1, .int x1), (2, .int x2), (3, .int x3), (5, .int x5), (6, .int x6), (7, .int x7), (8, .int x8)] [] h Q) (K2 : x8 < (i32 4) → wp SC 582 d s 68 [(0, .ref a0), (1, .int x1), (2, .int x2), (3, .int x3), (5, .int x5), (6, .int x6), (7, .int x7), (8, .int x8)] [] h Q) : wp SC 582 d s 62 [(0, .ref a0), (1, .int x1), (2, .int x2), (3, .int x3), (5, .int x5), (6, .int x6), (7, .int x7), (8, .int x8)] [] h Q := by
  refine wp_run 2 (pc' := 65) (lv' := [(0, .ref a0), (1, .int x1), (2, .int x2), (3, .int x3), (5, .int x5), (6, .int x6), (7, .int x7), (8, .int x8)]) (st' := [.int (i32 4), .int x8]) rfl ?_
  exact wp_cmp ⟨rfl, rfl⟩ rfl (fun hc => wp_weak (re_sb_at rfl (re_sb_at rfl (re_sb_at rfl (re_sb_at rfl (re_sb_at rfl (re_sb_at rfl (re_sb_at rfl (re_sb_at rfl (re_sb_nil _))))))))) (K1 (ic1_ge hc))) (fun hc => wp_weak (re_sb_at rfl (re_sb_at rfl (re_sb_at rfl (re_sb_at rfl (re_sb_at rfl (re_sb_at rfl (re_sb_at rfl (re_sb_at rfl (re_sb_nil _))))))))) (K2 (ic0_ge hc)))
set_option maxRecDepth 20000 in
theorem L582_68 {SC : List Value} {d s : Nat} {h : re_H} {Q : Nat → Value → re_H → Prop} {a0 : Nat} {x1 : Int32} {x2 : Int32} {x3 : Int32} {x5 : Int32} {x6 : Int32} {x7 : Int32} {x8 : Int32}
    (K : wp SC 582 d s 73 [(0, .ref a0), (1, .int x1), (2, .int x2), (3, .int x3), (5, .int x5), (6, .int x6), (7, .int x7), (8, .int x8)] [.int (i32 1)] h Q) : wp SC 582 d s 68 [(0, .ref a0), (1, .int x1), (2, .int x2), (3, .int x3), (5, .int x5), (6, .int x6), (7, .int x7), (8, .int x8)] [] h Q := by
  refine wp_run 2 (pc' := 73) (lv' := [(0, .ref a0), (1, .int x1), (2, .int x2), (3, .int x3), (5, .int x5), (6, .int x6), (7, .int x7), (8, .int x8)]) (st' := [.int (i32 1)]) rfl ?_
  exact wp_weak (re_sb_at rfl (re_sb_at rfl (re_sb_at rfl (re_sb_at rfl (re_sb_at rfl (re_sb_at rfl (re_sb_at rfl (re_sb_at rfl (re_sb_nil _))))))))) K
set_option maxRecDepth 20000 in
theorem L582_72 {SC : List Value} {d s : Nat} {h : re_H} {Q : Nat → Value → re_H → Prop} {a0 : Nat} {x1 : Int32} {x2 : Int32} {x3 : Int32} {x5 : Int32} {x6 : Int32} {x7 : Int32} {x8 : Int32}
    (K : wp SC 582 d s 73 [(0, .ref a0), (1, .int x1), (2, .int x2), (3, .int x3), (5, .int x5), (6, .int x6), (7, .int x7), (8, .int x8)] [.int (i32 0)] h Q) : wp SC 582 d s 72 [(0, .ref a0), (1, .int x1), (2, .int x2), (3, .int x3), (5, .int x5), (6, .int x6), (7, .int x7), (8, .int x8)] [] h Q := by
  refine wp_run 1 (pc' := 73) (lv' := [(0, .ref a0), (1, .int x1), (2, .int x2), (3, .int x3), (5, .int x5), (6, .int x6), (7, .int x7), (8, .int x8)]) (st' := [.int (i32 0)]) rfl ?_
  exact wp_weak (re_sb_at rfl (re_sb_at rfl (re_sb_at rfl (re_sb_at rfl (re_sb_at rfl (re_sb_at rfl (re_sb_at rfl (re_sb_at rfl (re_sb_nil _))))))))) K
set_option maxRecDepth 20000 in
theorem L582_73 {SC : List Value} {d s : Nat} {h : re_H} {Q : Nat → Value → re_H → Prop} {a0 : Nat} {x1 : Int32} {x2 : Int32} {x3 : Int32} {x5 : Int32} {x6 : Int32} {x7 : Int32} {x8 : Int32} {xs0 : Int32}
    (K1 : ¬ x7 = 0 → wp SC 582 d s 95 [(0, .ref a0), (1, .int x1), (2, .int x2), (3, .int x3), (5, .int x5), (6, .int x6), (7, .int x7), (8, .int x8), (9, .int xs0)] [] h Q) (K2 : x7 = 0 → wp SC 582 d s 80 [(0, .ref a0), (1, .int x1), (2, .int x2), (3, .int x3), (5, .int x5), (6, .int x6), (7, .int x7), (8, .int x8), (9, .int xs0)] [] h Q) : wp SC 582 d s 73 [(0, .ref a0), (1, .int x1), (2, .int x2), (3, .int x3), (5, .int x5), (6, .int x6), (7, .int x7), (8, .int x8)] [.int xs0] h Q := by
  refine wp_run 2 (pc' := 77) (lv' := [(9, .int xs0), (0, .ref a0), (1, .int x1), (2, .int x2), (3, .int x3), (5, .int x5), (6, .int x6), (7, .int x7), (8, .int x8)]) (st' := [.int x7]) rfl ?_
  exact wp_if ⟨rfl, rfl⟩ rfl (fun hc => wp_weak (re_sb_at rfl (re_sb_at rfl (re_sb_at rfl (re_sb_at rfl (re_sb_at rfl (re_sb_at rfl (re_sb_at rfl (re_sb_at rfl (re_sb_at rfl (re_sb_nil _)))))))))) (K1 (ic1_ne hc))) (fun hc => wp_weak (re_sb_at rfl (re_sb_at rfl (re_sb_at rfl (re_sb_at rfl (re_sb_at rfl (re_sb_at rfl (re_sb_at rfl (re_sb_at rfl (re_sb_at rfl (re_sb_nil _)))))))))) (K2 (ic0_ne hc)))
set_option maxRecDepth 20000 in
theorem L582_80 {SC : List Value} {d s : Nat} {h : re_H} {Q : Nat → Value → re_H → Prop} {a0 : Nat} {x1 : Int32} {x2 : Int32} {x3 : Int32} {x5 : Int32} {x6 : Int32} {x7 : Int32} {x8 : Int32} {x9 : Int32}
    (K1 : ¬ x3 = (i32 1) → wp SC 582 d s 99 [(0, .ref a0), (1, .int x1), (2, .int x2), (3, .int x3), (5, .int x5), (6, .int x6), (7, .int x7), (8, .int x8), (9, .int x9)] [] h Q) (K2 : x3 = (i32 1) → wp SC 582 d s 85 [(0, .ref a0), (1, .int x1), (2, .int x2), (3, .int x3), (5, .int x5), (6, .int x6), (7, .int x7), (8, .int x8), (9, .int x9)] [] h Q) : wp SC 582 d s 80 [(0, .ref a0), (1, .int x1), (2, .int x2), (3, .int x3), (5, .int x5), (6, .int x6), (7, .int x7), (8, .int x8), (9, .int x9)] [] h Q := by
  refine wp_run 2 (pc' := 82) (lv' := [(0, .ref a0), (1, .int x1), (2, .int x2), (3, .int x3), (5, .int x5), (6, .int x6), (7, .int x7), (8, .int x8), (9, .int x9)]) (st' := [.int (i32 1), .int x3]) rfl ?_
  exact wp_cmp ⟨rfl, rfl⟩ rfl (fun hc => wp_weak (re_sb_at rfl (re_sb_at rfl (re_sb_at rfl (re_sb_at rfl (re_sb_at rfl (re_sb_at rfl (re_sb_at rfl (re_sb_at rfl (re_sb_at rfl (re_sb_nil _)))))))))) (K1 (ic1_ne hc))) (fun hc => wp_weak (re_sb_at rfl (re_sb_at rfl (re_sb_at rfl (re_sb_at rfl (re_sb_at rfl (re_sb_at rfl (re_sb_at rfl (re_sb_at rfl (re_sb_at rfl (re_sb_nil _)))))))))) (K2 (ic0_ne hc)))
set_option maxRecDepth 20000 in
theorem L582_85 {SC : List Value} {d s : Nat} {h : re_H} {Q : Nat → Value → re_H → Prop} {a0 : Nat} {x1 : Int32} {x2 : Int32} {x3 : Int32} {x5 : Int32} {x6 : Int32} {x7 : Int32} {x8 : Int32} {x9 : Int32}
    {s1 s2 : Nat} (hs : s1 + s2 ≤ s) (K : wp SC 583 d s1 0 [(0, .ref a0), (1, .int x1), (2, .int x5)] [] h (wp_ret SC 582 (d + 1) s2 92 [(0, .ref a0), (1, .int x1), (2, .int x2), (3, .int x3), (5, .int x5), (6, .int x6), (7, .int x7), (8, .int x8), (9, .int x9)] [] Q)) : wp SC 582 (d + 1) s 85 [(0, .ref a0), (1, .int x1), (2, .int x2), (3, .int x3), (5, .int x5), (6, .int x6), (7, .int x7), (8, .int x8), (9, .int x9)] [] h Q := by
  refine wp_run 3 (pc' := 89) (lv' := [(0, .ref a0), (1, .int x1), (2, .int x2), (3, .int x3), (5, .int x5), (6, .int x6), (7, .int x7), (8, .int x8), (9, .int x9)]) (st' := [.int x5, .int x1, .ref a0]) rfl ?_
  have eA : lv_args 0 ([.int x5, .int x1, .ref a0].reverse) = [(0, .ref a0), (1, .int x1), (2, .int x5)] := by simp [lv_args, vc_i, vc_l, vc_r, vc_n, vc_a]
  refine wp_callS (ar := [.int x5, .int x1, .ref a0]) (rest := []) (s1 := s1) (s2 := s2) (d' := d) ⟨rfl, rfl⟩ rfl (Or.inl rfl) rfl (by simp [re_cat, vc_i, vc_l, vc_r, vc_n, vc_a]) (by rw [show re_cat ([.int x5, .int x1, .ref a0].reverse) = 3 from by simp [re_cat, vc_i, vc_l, vc_r, vc_n, vc_a]]; decide) (by decide) rfl rfl hs ?_
  rw [eA]
  exact wp_mono K (fun k v h' z => wp_ret_weak (re_sb_at rfl (re_sb_at rfl (re_sb_at rfl (re_sb_at rfl (re_sb_at rfl (re_sb_at rfl (re_sb_at rfl (re_sb_at rfl (re_sb_at rfl (re_sb_nil _)))))))))) z)
set_option maxRecDepth 20000 in
theorem L582_92 {SC : List Value} {d s : Nat} {h : re_H} {Q : Nat → Value → re_H → Prop} {a0 : Nat} {x1 : Int32} {x2 : Int32} {x3 : Int32} {x5 : Int32} {x6 : Int32} {x7 : Int32} {x8 : Int32} {x9 : Int32} {xs0 : Int32}
    (K1 : ¬ xs0 = 0 → wp SC 582 d s 99 [(0, .ref a0), (1, .int x1), (2, .int x2), (3, .int x3), (5, .int x5), (6, .int x6), (7, .int x7), (8, .int x8), (9, .int x9)] [] h Q) (K2 : xs0 = 0 → wp SC 582 d s 95 [(0, .ref a0), (1, .int x1), (2, .int x2), (3, .int x3), (5, .int x5), (6, .int x6), (7, .int x7), (8, .int x8), (9, .int x9)] [] h Q) : wp SC 582 d s 92 [(0, .ref a0), (1, .int x1), (2, .int x2), (3, .int x3), (5, .int x5), (6, .int x6), (7, .int x7), (8, .int x8), (9, .int x9)] [.int xs0] h Q := by
  exact wp_if ⟨rfl, rfl⟩ rfl (fun hc => wp_weak (re_sb_at rfl (re_sb_at rfl (re_sb_at rfl (re_sb_at rfl (re_sb_at rfl (re_sb_at rfl (re_sb_at rfl (re_sb_at rfl (re_sb_at rfl (re_sb_nil _)))))))))) (K1 (ic1_ne hc))) (fun hc => wp_weak (re_sb_at rfl (re_sb_at rfl (re_sb_at rfl (re_sb_at rfl (re_sb_at rfl (re_sb_at rfl (re_sb_at rfl (re_sb_at rfl (re_sb_at rfl (re_sb_nil _)))))))))) (K2 (ic0_ne hc)))
set_option maxRecDepth 20000 in
theorem L582_95 {SC : List Value} {d s : Nat} {h : re_H} {Q : Nat → Value → re_H → Prop} {a0 : Nat} {x1 : Int32} {x2 : Int32} {x3 : Int32} {x5 : Int32} {x6 : Int32} {x7 : Int32} {x8 : Int32} {x9 : Int32}
    (K : wp SC 582 d s 100 [(0, .ref a0), (1, .int x1), (2, .int x2), (3, .int x3), (5, .int x5), (6, .int x6), (7, .int x7), (8, .int x8), (9, .int x9)] [.int (i32 1)] h Q) : wp SC 582 d s 95 [(0, .ref a0), (1, .int x1), (2, .int x2), (3, .int x3), (5, .int x5), (6, .int x6), (7, .int x7), (8, .int x8), (9, .int x9)] [] h Q := by
  refine wp_run 2 (pc' := 100) (lv' := [(0, .ref a0), (1, .int x1), (2, .int x2), (3, .int x3), (5, .int x5), (6, .int x6), (7, .int x7), (8, .int x8), (9, .int x9)]) (st' := [.int (i32 1)]) rfl ?_
  exact wp_weak (re_sb_at rfl (re_sb_at rfl (re_sb_at rfl (re_sb_at rfl (re_sb_at rfl (re_sb_at rfl (re_sb_at rfl (re_sb_at rfl (re_sb_at rfl (re_sb_nil _)))))))))) K
set_option maxRecDepth 20000 in
theorem L582_99 {SC : List Value} {d s : Nat} {h : re_H} {Q : Nat → Value → re_H → Prop} {a0 : Nat} {x1 : Int32} {x2 : Int32} {x3 : Int32} {x5 : Int32} {x6 : Int32} {x7 : Int32} {x8 : Int32} {x9 : Int32}
    (K : wp SC 582 d s 100 [(0, .ref a0), (1, .int x1), (2, .int x2), (3, .int x3), (5, .int x5), (6, .int x6), (7, .int x7), (8, .int x8), (9, .int x9)] [.int (i32 0)] h Q) : wp SC 582 d s 99 [(0, .ref a0), (1, .int x1), (2, .int x2), (3, .int x3), (5, .int x5), (6, .int x6), (7, .int x7), (8, .int x8), (9, .int x9)] [] h Q := by
  refine wp_run 1 (pc' := 100) (lv' := [(0, .ref a0), (1, .int x1), (2, .int x2), (3, .int x3), (5, .int x5), (6, .int x6), (7, .int x7), (8, .int x8), (9, .int x9)]) (st' := [.int (i32 0)]) rfl ?_
  exact wp_weak (re_sb_at rfl (re_sb_at rfl (re_sb_at rfl (re_sb_at rfl (re_sb_at rfl (re_sb_at rfl (re_sb_at rfl (re_sb_at rfl (re_sb_at rfl (re_sb_nil _)))))))))) K
set_option maxRecDepth 20000 in
theorem L582_100 {SC : List Value} {d s : Nat} {h : re_H} {Q : Nat → Value → re_H → Prop} {a0 : Nat} {x1 : Int32} {x2 : Int32} {x3 : Int32} {x5 : Int32} {x6 : Int32} {x7 : Int32} {x8 : Int32} {x9 : Int32} {xs0 : Int32}
    (K1 : 0 < x2 → wp SC 582 d s 111 [(0, .ref a0), (1, .int x1), (2, .int x2), (3, .int x3), (5, .int x5), (6, .int x6), (7, .int x7), (8, .int x8), (9, .int x9), (10, .int xs0)] [] h Q) (K2 : ¬ 0 < x2 → wp SC 582 d s 106 [(0, .ref a0), (1, .int x1), (2, .int x2), (3, .int x3), (5, .int x5), (6, .int x6), (7, .int x7), (8, .int x8), (9, .int x9), (10, .int xs0)] [] h Q) : wp SC 582 d s 100 [(0, .ref a0), (1, .int x1), (2, .int x2), (3, .int x3), (5, .int x5), (6, .int x6), (7, .int x7), (8, .int x8), (9, .int x9)] [.int xs0] h Q := by
  refine wp_run 2 (pc' := 103) (lv' := [(10, .int xs0), (0, .ref a0), (1, .int x1), (2, .int x2), (3, .int x3), (5, .int x5), (6, .int x6), (7, .int x7), (8, .int x8), (9, .int x9)]) (st' := [.int x2]) rfl ?_
  exact wp_if ⟨rfl, rfl⟩ rfl (fun hc => wp_weak (re_sb_at rfl (re_sb_at rfl (re_sb_at rfl (re_sb_at rfl (re_sb_at rfl (re_sb_at rfl (re_sb_at rfl (re_sb_at rfl (re_sb_at rfl (re_sb_at rfl (re_sb_nil _))))))))))) (K1 (ic1_gt hc))) (fun hc => wp_weak (re_sb_at rfl (re_sb_at rfl (re_sb_at rfl (re_sb_at rfl (re_sb_at rfl (re_sb_at rfl (re_sb_at rfl (re_sb_at rfl (re_sb_at rfl (re_sb_at rfl (re_sb_nil _))))))))))) (K2 (ic0_gt hc)))
set_option maxRecDepth 20000 in
theorem L582_106 {SC : List Value} {d s : Nat} {h : re_H} {Q : Nat → Value → re_H → Prop} {a0 : Nat} {x1 : Int32} {x2 : Int32} {x3 : Int32} {x5 : Int32} {x6 : Int32} {x7 : Int32} {x8 : Int32} {x9 : Int32} {x10 : Int32}
    (K1 : ¬ x7 = 0 → wp SC 582 d s 167 [(0, .ref a0), (1, .int x1), (2, .int x2), (3, .int x3), (5, .int x5), (6, .int x6), (10, .int x10)] [] h Q) (K2 : x7 = 0 → wp SC 582 d s 111 [(0, .ref a0), (1, .int x1), (2, .int x2), (3, .int x3), (5, .int x5), (6, .int x6), (7, .int x7), (8, .int x8), (9, .int x9), (10, .int x10)] [] h Q) : wp SC 582 d s 106 [(0, .ref a0), (1, .int x1), (2, .int x2), (3, .int x3), (5, .int x5), (6, .int x6), (7, .int x7), (8, .int x8), (9, .int x9), (10, .int x10)] [] h Q := by
  refine wp_run 1 (pc' := 108) (lv' := [(0, .ref a0), (1, .int x1), (2, .int x2), (3, .int x3), (5, .int x5), (6, .int x6), (7, .int x7), (8, .int x8), (9, .int x9), (10, .int x10)]) (st' := [.int x7]) rfl ?_
  exact wp_if ⟨rfl, rfl⟩ rfl (fun hc => wp_weak (re_sb_at rfl (re_sb_at rfl (re_sb_at rfl (re_sb_at rfl (re_sb_at rfl (re_sb_at rfl (re_sb_at rfl (re_sb_nil _)))))))) (K1 (ic1_ne hc))) (fun hc => wp_weak (re_sb_at rfl (re_sb_at rfl (re_sb_at rfl (re_sb_at rfl (re_sb_at rfl (re_sb_at rfl (re_sb_at rfl (re_sb_at rfl (re_sb_at rfl (re_sb_at rfl (re_sb_nil _))))))))))) (K2 (ic0_ne hc)))
set_option maxRecDepth 20000 in
theorem L582_111 {SC : List Value} {d s : Nat} {h : re_H} {Q : Nat → Value → re_H → Prop} {a0 : Nat} {x1 : Int32} {x2 : Int32} {x3 : Int32} {x5 : Int32} {x6 : Int32} {x7 : Int32} {x8 : Int32} {x9 : Int32} {x10 : Int32}
    (K1 : ¬ x6 < 0 → wp SC 582 d s 121 [(0, .ref a0), (1, .int x1), (2, .int x2), (3, .int x3), (5, .int x5), (6, .int x6), (7, .int x7), (8, .int x8), (9, .int x9), (10, .int x10)] [] h Q) (K2 : x6 < 0 → wp SC 582 d s 116 [(0, .ref a0), (1, .int x1), (2, .int x2), (3, .int x3), (5, .int x5), (6, .int x6), (7, .int x7), (8, .int x8), (9, .int x9), (10, .int x10)] [] h Q) : wp SC 582 d s 111 [(0, .ref a0), (1, .int x1), (2, .int x2), (3, .int x3), (5, .int x5), (6, .int x6), (7, .int x7), (8, .int x8), (9, .int x9), (10, .int x10)] [] h Q := by
  refine wp_run 1 (pc' := 113) (lv' := [(0, .ref a0), (1, .int x1), (2, .int x2), (3, .int x3), (5, .int x5), (6, .int x6), (7, .int x7), (8, .int x8), (9, .int x9), (10, .int x10)]) (st' := [.int x6]) rfl ?_
  exact wp_if ⟨rfl, rfl⟩ rfl (fun hc => wp_weak (re_sb_at rfl (re_sb_at rfl (re_sb_at rfl (re_sb_at rfl (re_sb_at rfl (re_sb_at rfl (re_sb_at rfl (re_sb_at rfl (re_sb_at rfl (re_sb_at rfl (re_sb_nil _))))))))))) (K1 (ic1_ge hc))) (fun hc => wp_weak (re_sb_at rfl (re_sb_at rfl (re_sb_at rfl (re_sb_at rfl (re_sb_at rfl (re_sb_at rfl (re_sb_at rfl (re_sb_at rfl (re_sb_at rfl (re_sb_at rfl (re_sb_nil _))))))))))) (K2 (ic0_ge hc)))
set_option maxRecDepth 20000 in
theorem L582_116 {SC : List Value} {d s : Nat} {h : re_H} {Q : Nat → Value → re_H → Prop} {a0 : Nat} {x1 : Int32} {x2 : Int32} {x3 : Int32} {x5 : Int32} {x6 : Int32} {x7 : Int32} {x8 : Int32} {x9 : Int32} {x10 : Int32}
    (K1 : x7 = 0 → wp SC 582 d s 167 [(0, .ref a0), (1, .int x1), (2, .int x2), (3, .int x3), (5, .int x5), (6, .int x6), (10, .int x10)] [] h Q) (K2 : ¬ x7 = 0 → wp SC 582 d s 121 [(0, .ref a0), (1, .int x1), (2, .int x2), (3, .int x3), (5, .int x5), (6, .int x6), (7, .int x7), (8, .int x8), (9, .int x9), (10, .int x10)] [] h Q) : wp SC 582 d s 116 [(0, .ref a0), (1, .int x1), (2, .int x2), (3, .int x3), (5, .int x5), (6, .int x6), (7, .int x7), (8, .int x8), (9, .int x9), (10, .int x10)] [] h Q := by
  refine wp_run 1 (pc' := 118) (lv' := [(0, .ref a0), (1, .int x1), (2, .int x2), (3, .int x3), (5, .int x5), (6, .int x6), (7, .int x7), (8, .int x8), (9, .int x9), (10, .int x10)]) (st' := [.int x7]) rfl ?_
  exact wp_if ⟨rfl, rfl⟩ rfl (fun hc => wp_weak (re_sb_at rfl (re_sb_at rfl (re_sb_at rfl (re_sb_at rfl (re_sb_at rfl (re_sb_at rfl (re_sb_at rfl (re_sb_nil _)))))))) (K1 (ic1_eq hc))) (fun hc => wp_weak (re_sb_at rfl (re_sb_at rfl (re_sb_at rfl (re_sb_at rfl (re_sb_at rfl (re_sb_at rfl (re_sb_at rfl (re_sb_at rfl (re_sb_at rfl (re_sb_at rfl (re_sb_nil _))))))))))) (K2 (ic0_eq hc)))
set_option maxRecDepth 20000 in
theorem L582_121 {SC : List Value} {d s : Nat} {h : re_H} {Q : Nat → Value → re_H → Prop} {a0 : Nat} {x1 : Int32} {x2 : Int32} {x3 : Int32} {x5 : Int32} {x6 : Int32} {x7 : Int32} {x8 : Int32} {x9 : Int32} {x10 : Int32}
    (K1 : ¬ x10 = 0 → wp SC 582 d s 133 [(0, .ref a0), (1, .int x1), (2, .int x2), (3, .int x3), (5, .int x5), (6, .int x6), (7, .int x7), (8, .int x8), (9, .int x9), (10, .int x10)] [] h Q) (K2 : x10 = 0 → wp SC 582 d s 126 [(0, .ref a0), (1, .int x1), (2, .int x2), (3, .int x3), (5, .int x5), (6, .int x6), (7, .int x7), (8, .int x8), (9, .int x9), (10, .int x10)] [] h Q) : wp SC 582 d s 121 [(0, .ref a0), (1, .int x1), (2, .int x2), (3, .int x3), (5, .int x5), (6, .int x6), (7, .int x7), (8, .int x8), (9, .int x9), (10, .int x10)] [] h Q := by
  refine wp_run 1 (pc' := 123) (lv' := [(0, .ref a0), (1, .int x1), (2, .int x2), (3, .int x3), (5, .int x5), (6, .int x6), (7, .int x7), (8, .int x8), (9, .int x9), (10, .int x10)]) (st' := [.int x10]) rfl ?_
  exact wp_if ⟨rfl, rfl⟩ rfl (fun hc => wp_weak (re_sb_at rfl (re_sb_at rfl (re_sb_at rfl (re_sb_at rfl (re_sb_at rfl (re_sb_at rfl (re_sb_at rfl (re_sb_at rfl (re_sb_at rfl (re_sb_at rfl (re_sb_nil _))))))))))) (K1 (ic1_ne hc))) (fun hc => wp_weak (re_sb_at rfl (re_sb_at rfl (re_sb_at rfl (re_sb_at rfl (re_sb_at rfl (re_sb_at rfl (re_sb_at rfl (re_sb_at rfl (re_sb_at rfl (re_sb_at rfl (re_sb_nil _))))))))))) (K2 (ic0_ne hc)))
set_option maxRecDepth 20000 in
theorem L582_126 {SC : List Value} {d s : Nat} {h : re_H} {Q : Nat → Value → re_H → Prop} {a0 : Nat} {x1 : Int32} {x2 : Int32} {x3 : Int32} {x5 : Int32} {x6 : Int32} {x7 : Int32} {x8 : Int32} {x9 : Int32} {x10 : Int32}
    (K1 : ¬ x6 = x8 → wp SC 582 d s 167 [(0, .ref a0), (1, .int x1), (2, .int x2), (3, .int x3), (5, .int x5), (6, .int x6), (10, .int x10)] [] h Q) (K2 : x6 = x8 → wp SC 582 d s 133 [(0, .ref a0), (1, .int x1), (2, .int x2), (3, .int x3), (5, .int x5), (6, .int x6), (7, .int x7), (8, .int x8), (9, .int x9), (10, .int x10)] [] h Q) : wp SC 582 d s 126 [(0, .ref a0), (1, .int x1), (2, .int x2), (3, .int x3), (5, .int x5), (6, .int x6), (7, .int x7), (8, .int x8), (9, .int x9), (10, .int x10)] [] h Q := by
  refine wp_run 2 (pc' := 130) (lv' := [(0, .ref a0), (1, .int x1), (2, .int x2), (3, .int x3), (5, .int x5), (6, .int x6), (7, .int x7), (8, .int x8), (9, .int x9), (10, .int x10)]) (st' := [.int x8, .int x6]) rfl ?_
  exact wp_cmp ⟨rfl, rfl⟩ rfl (fun hc => wp_weak (re_sb_at rfl (re_sb_at rfl (re_sb_at rfl (re_sb_at rfl (re_sb_at rfl (re_sb_at rfl (re_sb_at rfl (re_sb_nil _)))))))) (K1 (ic1_ne hc))) (fun hc => wp_weak (re_sb_at rfl (re_sb_at rfl (re_sb_at rfl (re_sb_at rfl (re_sb_at rfl (re_sb_at rfl (re_sb_at rfl (re_sb_at rfl (re_sb_at rfl (re_sb_at rfl (re_sb_nil _))))))))))) (K2 (ic0_ne hc)))
set_option maxRecDepth 20000 in
theorem L582_133 {SC : List Value} {d s : Nat} {h : re_H} {Q : Nat → Value → re_H → Prop} {a0 : Nat} {x1 : Int32} {x2 : Int32} {x3 : Int32} {x5 : Int32} {x6 : Int32} {x7 : Int32} {x8 : Int32} {x9 : Int32} {x10 : Int32}
    (K1 : x9 = 0 → wp SC 582 d s 163 [(0, .ref a0), (1, .int x1), (2, .int x2), (3, .int x3), (5, .int x5), (6, .int x6), (10, .int x10)] [] h Q) (K2 : ¬ x9 = 0 → wp SC 582 d s 138 [(0, .ref a0), (1, .int x1), (2, .int x2), (3, .int x3), (5, .int x5), (6, .int x6), (7, .int x7), (8, .int x8), (10, .int x10)] [] h Q) : wp SC 582 d s 133 [(0, .ref a0), (1, .int x1), (2, .int x2), (3, .int x3), (5, .int x5), (6, .int x6), (7, .int x7), (8, .int x8), (9, .int x9), (10, .int x10)] [] h Q := by
  refine wp_run 1 (pc' := 135) (lv' := [(0, .ref a0), (1, .int x1), (2, .int x2), (3, .int x3), (5, .int x5), (6, .int x6), (7, .int x7), (8, .int x8), (9, .int x9), (10, .int x10)]) (st' := [.int x9]) rfl ?_
  exact wp_if ⟨rfl, rfl⟩ rfl (fun hc => wp_weak (re_sb_at rfl (re_sb_at rfl (re_sb_at rfl (re_sb_at rfl (re_sb_at rfl (re_sb_at rfl (re_sb_at rfl (re_sb_nil _)))))))) (K1 (ic1_eq hc))) (fun hc => wp_weak (re_sb_at rfl (re_sb_at rfl (re_sb_at rfl (re_sb_at rfl (re_sb_at rfl (re_sb_at rfl (re_sb_at rfl (re_sb_at rfl (re_sb_at rfl (re_sb_nil _)))))))))) (K2 (ic0_eq hc)))
set_option maxRecDepth 20000 in
theorem L582_138 {SC : List Value} {d s : Nat} {h : re_H} {Q : Nat → Value → re_H → Prop} {a0 : Nat} {x1 : Int32} {x2 : Int32} {x3 : Int32} {x5 : Int32} {x6 : Int32} {x7 : Int32} {x8 : Int32} {x10 : Int32}
    (K1 : ¬ x7 = 0 → wp SC 582 d s 147 [(0, .ref a0), (1, .int x1), (2, .int x2), (3, .int x3), (5, .int x5), (6, .int x6), (8, .int x8), (10, .int x10)] [] h Q) (K2 : x7 = 0 → wp SC 582 d s 143 [(0, .ref a0), (1, .int x1), (2, .int x2), (3, .int x3), (5, .int x5), (6, .int x6), (8, .int x8), (10, .int x10)] [] h Q) : wp SC 582 d s 138 [(0, .ref a0), (1, .int x1), (2, .int x2), (3, .int x3), (5, .int x5), (6, .int x6), (7, .int x7), (8, .int x8), (10, .int x10)] [] h Q := by
  refine wp_run 1 (pc' := 140) (lv' := [(0, .ref a0), (1, .int x1), (2, .int x2), (3, .int x3), (5, .int x5), (6, .int x6), (7, .int x7), (8, .int x8), (10, .int x10)]) (st' := [.int x7]) rfl ?_
  exact wp_if ⟨rfl, rfl⟩ rfl (fun hc => wp_weak (re_sb_at rfl (re_sb_at rfl (re_sb_at rfl (re_sb_at rfl (re_sb_at rfl (re_sb_at rfl (re_sb_at rfl (re_sb_at rfl (re_sb_nil _))))))))) (K1 (ic1_ne hc))) (fun hc => wp_weak (re_sb_at rfl (re_sb_at rfl (re_sb_at rfl (re_sb_at rfl (re_sb_at rfl (re_sb_at rfl (re_sb_at rfl (re_sb_at rfl (re_sb_nil _))))))))) (K2 (ic0_ne hc)))
set_option maxRecDepth 20000 in
theorem L582_143 {SC : List Value} {d s : Nat} {h : re_H} {Q : Nat → Value → re_H → Prop} {a0 : Nat} {x1 : Int32} {x2 : Int32} {x3 : Int32} {x5 : Int32} {x6 : Int32} {x8 : Int32} {x10 : Int32}
    (K : wp SC 582 d s 148 [(0, .ref a0), (1, .int x1), (2, .int x2), (3, .int x3), (5, .int x5), (6, .int x6), (8, .int x8), (10, .int x10)] [.int (i32 1)] h Q) : wp SC 582 d s 143 [(0, .ref a0), (1, .int x1), (2, .int x2), (3, .int x3), (5, .int x5), (6, .int x6), (8, .int x8), (10, .int x10)] [] h Q := by
  refine wp_run 2 (pc' := 148) (lv' := [(0, .ref a0), (1, .int x1), (2, .int x2), (3, .int x3), (5, .int x5), (6, .int x6), (8, .int x8), (10, .int x10)]) (st' := [.int (i32 1)]) rfl ?_
  exact wp_weak (re_sb_at rfl (re_sb_at rfl (re_sb_at rfl (re_sb_at rfl (re_sb_at rfl (re_sb_at rfl (re_sb_at rfl (re_sb_at rfl (re_sb_nil _))))))))) K
set_option maxRecDepth 20000 in
theorem L582_147 {SC : List Value} {d s : Nat} {h : re_H} {Q : Nat → Value → re_H → Prop} {a0 : Nat} {x1 : Int32} {x2 : Int32} {x3 : Int32} {x5 : Int32} {x6 : Int32} {x8 : Int32} {x10 : Int32}
    (K : wp SC 582 d s 148 [(0, .ref a0), (1, .int x1), (2, .int x2), (3, .int x3), (5, .int x5), (6, .int x6), (8, .int x8), (10, .int x10)] [.int (i32 0)] h Q) : wp SC 582 d s 147 [(0, .ref a0), (1, .int x1), (2, .int x2), (3, .int x3), (5, .int x5), (6, .int x6), (8, .int x8), (10, .int x10)] [] h Q := by
  refine wp_run 1 (pc' := 148) (lv' := [(0, .ref a0), (1, .int x1), (2, .int x2), (3, .int x3), (5, .int x5), (6, .int x6), (8, .int x8), (10, .int x10)]) (st' := [.int (i32 0)]) rfl ?_
  exact wp_weak (re_sb_at rfl (re_sb_at rfl (re_sb_at rfl (re_sb_at rfl (re_sb_at rfl (re_sb_at rfl (re_sb_at rfl (re_sb_at rfl (re_sb_nil _))))))))) K
set_option maxRecDepth 20000 in
theorem L582_148 {SC : List Value} {d s : Nat} {h : re_H} {Q : Nat → Value → re_H → Prop} {a0 : Nat} {x1 : Int32} {x2 : Int32} {x3 : Int32} {x5 : Int32} {x6 : Int32} {x8 : Int32} {x10 : Int32} {xs0 : Int32}
    (K1 : ¬ x6 = x8 → wp SC 582 d s 159 [(0, .ref a0), (1, .int x1), (2, .int x2), (3, .int x3), (5, .int x5), (6, .int x6), (10, .int x10)] [.int xs0] h Q) (K2 : x6 = x8 → wp SC 582 d s 155 [(0, .ref a0), (1, .int x1), (2, .int x2), (3, .int x3), (5, .int x5), (6, .int x6), (10, .int x10)] [.int xs0] h Q) : wp SC 582 d s 148 [(0, .ref a0), (1, .int x1), (2, .int x2), (3, .int x3), (5, .int x5), (6, .int x6), (8, .int x8), (10, .int x10)] [.int xs0] h Q := by
  refine wp_run 2 (pc' := 152) (lv' := [(0, .ref a0), (1, .int x1), (2, .int x2), (3, .int x3), (5, .int x5), (6, .int x6), (8, .int x8), (10, .int x10)]) (st' := [.int x8, .int x6, .int xs0]) rfl ?_
  exact wp_cmp ⟨rfl, rfl⟩ rfl (fun hc => wp_weak (re_sb_at rfl (re_sb_at rfl (re_sb_at rfl (re_sb_at rfl (re_sb_at rfl (re_sb_at rfl (re_sb_at rfl (re_sb_nil _)))))))) (K1 (ic1_ne hc))) (fun hc => wp_weak (re_sb_at rfl (re_sb_at rfl (re_sb_at rfl (re_sb_at rfl (re_sb_at rfl (re_sb_at rfl (re_sb_at rfl (re_sb_nil _)))))))) (K2 (ic0_ne hc)))
set_option maxRecDepth 20000 in
theorem L582_155 {SC : List Value} {d s : Nat} {h : re_H} {Q : Nat → Value → re_H → Prop} {a0 : Nat} {x1 : Int32} {x2 : Int32} {x3 : Int32} {x5 : Int32} {x6 : Int32} {x10 : Int32} {xs0 : Int32}
    (K : wp SC 582 d s 160 [(0, .ref a0), (1, .int x1), (2, .int x2), (3, .int x3), (5, .int x5), (6, .int x6), (10, .int x10)] [.int (i32 1), .int xs0] h Q) : wp SC 582 d s 155 [(0, .ref a0), (1, .int x1), (2, .int x2), (3, .int x3), (5, .int x5), (6, .int x6), (10, .int x10)] [.int xs0] h Q := by
  refine wp_run 2 (pc' := 160) (lv' := [(0, .ref a0), (1, .int x1), (2, .int x2), (3, .int x3), (5, .int x5), (6, .int x6), (10, .int x10)]) (st' := [.int (i32 1), .int xs0]) rfl ?_
  exact wp_weak (re_sb_at rfl (re_sb_at rfl (re_sb_at rfl (re_sb_at rfl (re_sb_at rfl (re_sb_at rfl (re_sb_at rfl (re_sb_nil _)))))))) K
set_option maxRecDepth 20000 in
theorem L582_159 {SC : List Value} {d s : Nat} {h : re_H} {Q : Nat → Value → re_H → Prop} {a0 : Nat} {x1 : Int32} {x2 : Int32} {x3 : Int32} {x5 : Int32} {x6 : Int32} {x10 : Int32} {xs0 : Int32}
    (K : wp SC 582 d s 160 [(0, .ref a0), (1, .int x1), (2, .int x2), (3, .int x3), (5, .int x5), (6, .int x6), (10, .int x10)] [.int (i32 0), .int xs0] h Q) : wp SC 582 d s 159 [(0, .ref a0), (1, .int x1), (2, .int x2), (3, .int x3), (5, .int x5), (6, .int x6), (10, .int x10)] [.int xs0] h Q := by
  refine wp_run 1 (pc' := 160) (lv' := [(0, .ref a0), (1, .int x1), (2, .int x2), (3, .int x3), (5, .int x5), (6, .int x6), (10, .int x10)]) (st' := [.int (i32 0), .int xs0]) rfl ?_
  exact wp_weak (re_sb_at rfl (re_sb_at rfl (re_sb_at rfl (re_sb_at rfl (re_sb_at rfl (re_sb_at rfl (re_sb_at rfl (re_sb_nil _)))))))) K
set_option maxRecDepth 20000 in
theorem L582_160 {SC : List Value} {d s : Nat} {h : re_H} {Q : Nat → Value → re_H → Prop} {a0 : Nat} {x1 : Int32} {x2 : Int32} {x3 : Int32} {x5 : Int32} {x6 : Int32} {x10 : Int32} {xs0 : Int32} {xs1 : Int32}
    (K1 : ¬ xs1 = xs0 → wp SC 582 d s 167 [(0, .ref a0), (1, .int x1), (2, .int x2), (3, .int x3), (5, .int x5), (6, .int x6), (10, .int x10)] [] h Q) (K2 : xs1 = xs0 → wp SC 582 d s 163 [(0, .ref a0), (1, .int x1), (2, .int x2), (3, .int x3), (5, .int x5), (6, .int x6), (10, .int x10)] [] h Q) : wp SC 582 d s 160 [(0, .ref a0), (1, .int x1), (2, .int x2), (3, .int x3), (5, .int x5), (6, .int x6), (10, .int x10)] [.int xs0, .int xs1] h Q := by
  exact wp_cmp ⟨rfl, rfl⟩ rfl (fun hc => wp_weak (re_sb_at rfl (re_sb_at rfl (re_sb_at rfl (re_sb_at rfl (re_sb_at rfl (re_sb_at rfl (re_sb_at rfl (re_sb_nil _)))))))) (K1 (ic1_ne hc))) (fun hc => wp_weak (re_sb_at rfl (re_sb_at rfl (re_sb_at rfl (re_sb_at rfl (re_sb_at rfl (re_sb_at rfl (re_sb_at rfl (re_sb_nil _)))))))) (K2 (ic0_ne hc)))
set_option maxRecDepth 20000 in
theorem L582_163 {SC : List Value} {d s : Nat} {h : re_H} {Q : Nat → Value → re_H → Prop} {a0 : Nat} {x1 : Int32} {x2 : Int32} {x3 : Int32} {x5 : Int32} {x6 : Int32} {x10 : Int32}
    (K : wp SC 582 d s 168 [(0, .ref a0), (1, .int x1), (2, .int x2), (3, .int x3), (5, .int x5), (6, .int x6), (10, .int x10)] [.int (i32 1)] h Q) : wp SC 582 d s 163 [(0, .ref a0), (1, .int x1), (2, .int x2), (3, .int x3), (5, .int x5), (6, .int x6), (10, .int x10)] [] h Q := by
  refine wp_run 2 (pc' := 168) (lv' := [(0, .ref a0), (1, .int x1), (2, .int x2), (3, .int x3), (5, .int x5), (6, .int x6), (10, .int x10)]) (st' := [.int (i32 1)]) rfl ?_
  exact wp_weak (re_sb_at rfl (re_sb_at rfl (re_sb_at rfl (re_sb_at rfl (re_sb_at rfl (re_sb_at rfl (re_sb_at rfl (re_sb_nil _)))))))) K
set_option maxRecDepth 20000 in
theorem L582_167 {SC : List Value} {d s : Nat} {h : re_H} {Q : Nat → Value → re_H → Prop} {a0 : Nat} {x1 : Int32} {x2 : Int32} {x3 : Int32} {x5 : Int32} {x6 : Int32} {x10 : Int32}
    (K : wp SC 582 d s 168 [(0, .ref a0), (1, .int x1), (2, .int x2), (3, .int x3), (5, .int x5), (6, .int x6), (10, .int x10)] [.int (i32 0)] h Q) : wp SC 582 d s 167 [(0, .ref a0), (1, .int x1), (2, .int x2), (3, .int x3), (5, .int x5), (6, .int x6), (10, .int x10)] [] h Q := by
  refine wp_run 1 (pc' := 168) (lv' := [(0, .ref a0), (1, .int x1), (2, .int x2), (3, .int x3), (5, .int x5), (6, .int x6), (10, .int x10)]) (st' := [.int (i32 0)]) rfl ?_
  exact wp_weak (re_sb_at rfl (re_sb_at rfl (re_sb_at rfl (re_sb_at rfl (re_sb_at rfl (re_sb_at rfl (re_sb_at rfl (re_sb_nil _)))))))) K
set_option maxRecDepth 20000 in
theorem L582_168 {SC : List Value} {d s : Nat} {h : re_H} {Q : Nat → Value → re_H → Prop} {a0 : Nat} {x1 : Int32} {x2 : Int32} {x3 : Int32} {x5 : Int32} {x6 : Int32} {x10 : Int32} {xs0 : Int32}
    (K : wp SC 582 d s 173 [(0, .ref a0), (1, .int x1), (2, .int x2), (3, .int x3), (4, .int xs0), (5, .int x5), (6, .int x6), (10, .int x10), (11, .int (i32 0))] [] h Q) : wp SC 582 d s 168 [(0, .ref a0), (1, .int x1), (2, .int x2), (3, .int x3), (5, .int x5), (6, .int x6), (10, .int x10)] [.int xs0] h Q := by
  refine wp_run 3 (pc' := 173) (lv' := [(11, .int (i32 0)), (4, .int xs0), (0, .ref a0), (1, .int x1), (2, .int x2), (3, .int x3), (5, .int x5), (6, .int x6), (10, .int x10)]) (st' := []) rfl ?_
  exact wp_weak (re_sb_at rfl (re_sb_at rfl (re_sb_at rfl (re_sb_at rfl (re_sb_at rfl (re_sb_at rfl (re_sb_at rfl (re_sb_at rfl (re_sb_at rfl (re_sb_nil _)))))))))) K
set_option maxRecDepth 20000 in
theorem L582_173 {SC : List Value} {d s : Nat} {h : re_H} {Q : Nat → Value → re_H → Prop} {a0 : Nat} {x1 : Int32} {x2 : Int32} {x3 : Int32} {x4 : Int32} {x5 : Int32} {x6 : Int32} {x10 : Int32} {x11 : Int32}
    (K1 : ¬ x11 < (i32 6) → wp SC 582 d s 328 [(0, .ref a0), (1, .int x1), (2, .int x2), (3, .int x3), (4, .int x4), (5, .int x5)] [] h Q) (K2 : x11 < (i32 6) → wp SC 582 d s 180 [(0, .ref a0), (1, .int x1), (2, .int x2), (3, .int x3), (4, .int x4), (5, .int x5), (6, .int x6), (10, .int x10), (11, .int x11)] [] h Q) : wp SC 582 d s 173 [(0, .ref a0), (1, .int x1), (2, .int x2), (3, .int x3), (4, .int x4), (5, .int x5), (6, .int x6), (10, .int x10), (11, .int x11)] [] h Q := by
  refine wp_run 1 (pc' := 175) (lv' := [(0, .ref a0), (1, .int x1), (2, .int x2), (3, .int x3), (4, .int x4), (5, .int x5), (6, .int x6), (10, .int x10), (11, .int x11)]) (st' := [.int x11]) rfl ?_
  refine wp_bi (x := (i32 6)) ⟨rfl, rfl⟩ (by decide) ?_
  exact wp_cmp ⟨rfl, rfl⟩ rfl (fun hc => wp_weak (re_sb_at rfl (re_sb_at rfl (re_sb_at rfl (re_sb_at rfl (re_sb_at rfl (re_sb_at rfl (re_sb_nil _))))))) (K1 (ic1_ge hc))) (fun hc => wp_weak (re_sb_at rfl (re_sb_at rfl (re_sb_at rfl (re_sb_at rfl (re_sb_at rfl (re_sb_at rfl (re_sb_at rfl (re_sb_at rfl (re_sb_at rfl (re_sb_nil _)))))))))) (K2 (ic0_ge hc)))
set_option maxRecDepth 20000 in
theorem L582_180 {SC : List Value} {d s : Nat} {h : re_H} {Q : Nat → Value → re_H → Prop} {a0 : Nat} {x1 : Int32} {x2 : Int32} {x3 : Int32} {x4 : Int32} {x5 : Int32} {x6 : Int32} {x10 : Int32} {x11 : Int32}
    (K1 : x4 = 0 → wp SC 582 d s 328 [(0, .ref a0), (1, .int x1), (2, .int x2), (3, .int x3), (4, .int x4), (5, .int x5)] [] h Q) (K2 : ¬ x4 = 0 → wp SC 582 d s 185 [(0, .ref a0), (1, .int x1), (2, .int x2), (3, .int x3), (5, .int x5), (6, .int x6), (10, .int x10), (11, .int x11)] [] h Q) : wp SC 582 d s 180 [(0, .ref a0), (1, .int x1), (2, .int x2), (3, .int x3), (4, .int x4), (5, .int x5), (6, .int x6), (10, .int x10), (11, .int x11)] [] h Q := by
  refine wp_run 1 (pc' := 182) (lv' := [(0, .ref a0), (1, .int x1), (2, .int x2), (3, .int x3), (4, .int x4), (5, .int x5), (6, .int x6), (10, .int x10), (11, .int x11)]) (st' := [.int x4]) rfl ?_
  exact wp_if ⟨rfl, rfl⟩ rfl (fun hc => wp_weak (re_sb_at rfl (re_sb_at rfl (re_sb_at rfl (re_sb_at rfl (re_sb_at rfl (re_sb_at rfl (re_sb_nil _))))))) (K1 (ic1_eq hc))) (fun hc => wp_weak (re_sb_at rfl (re_sb_at rfl (re_sb_at rfl (re_sb_at rfl (re_sb_at rfl (re_sb_at rfl (re_sb_at rfl (re_sb_at rfl (re_sb_nil _))))))))) (K2 (ic0_eq hc)))
set_option maxRecDepth 20000 in
theorem L582_185 {SC : List Value} {d s : Nat} {h : re_H} {Q : Nat → Value → re_H → Prop} {a0 : Nat} {x1 : Int32} {x2 : Int32} {x3 : Int32} {x5 : Int32} {x6 : Int32} {x10 : Int32} {x11 : Int32}
    {c : Nat} {w : List Value} (eg : re_hg h a0 = some (c, w)) (ec : c = 0) {s1 s2 : Nat} (hs : s1 + s2 ≤ s) (K : wp SC 33 d s1 0 [(0, .ref a0), (1, .int x5), (2, .int x11)] [] h (wp_ret SC 582 (d + 1) s2 193 [(0, .ref a0), (1, .int x1), (2, .int x2), (3, .int x3), (5, .int x5), (6, .int x6), (10, .int x10), (11, .int x11)] [] Q)) : wp SC 582 (d + 1) s 185 [(0, .ref a0), (1, .int x1), (2, .int x2), (3, .int x3), (5, .int x5), (6, .int x6), (10, .int x10), (11, .int x11)] [] h Q := by
  refine wp_run 3 (pc' := 190) (lv' := [(0, .ref a0), (1, .int x1), (2, .int x2), (3, .int x3), (5, .int x5), (6, .int x6), (10, .int x10), (11, .int x11)]) (st' := [.int x11, .int x5, .ref a0]) rfl ?_
  have eA : lv_args 0 (.ref a0 :: [.int x11, .int x5].reverse) = [(0, .ref a0), (1, .int x5), (2, .int x11)] := by simp [lv_args, vc_i, vc_l, vc_r, vc_n, vc_a]
  refine wp_callV (ar := [.int x11, .int x5]) (rest := []) (s1 := s1) (s2 := s2) (d' := d) ⟨rfl, rfl⟩ rfl (Or.inl rfl)  (by simp [re_cat, vc_i, vc_l, vc_r, vc_n, vc_a]) (by rw [show re_cat (.ref a0 :: [.int x11, .int x5].reverse) = 3 from by simp [re_cat, vc_i, vc_l, vc_r, vc_n, vc_a]]; decide) (by decide) rfl eg ec rfl hs ?_
  rw [eA]
  exact wp_mono K (fun k v h' z => wp_ret_weak (re_sb_at rfl (re_sb_at rfl (re_sb_at rfl (re_sb_at rfl (re_sb_at rfl (re_sb_at rfl (re_sb_at rfl (re_sb_at rfl (re_sb_nil _))))))))) z)
set_option maxRecDepth 20000 in
theorem L582_193 {SC : List Value} {d s : Nat} {h : re_H} {Q : Nat → Value → re_H → Prop} {a0 : Nat} {x1 : Int32} {x2 : Int32} {x3 : Int32} {x5 : Int32} {x6 : Int32} {x10 : Int32} {x11 : Int32} {xs0 : Int32}
    (K1 : x6 = 0 → wp SC 582 d s 205 [(0, .ref a0), (1, .int x1), (2, .int x2), (3, .int x3), (5, .int x5), (6, .int x6), (10, .int x10), (11, .int x11), (12, .int xs0)] [] h Q) (K2 : ¬ x6 = 0 → wp SC 582 d s 200 [(0, .ref a0), (1, .int x1), (2, .int x2), (3, .int x3), (5, .int x5), (6, .int x6), (10, .int x10), (11, .int x11), (12, .int xs0)] [] h Q) : wp SC 582 d s 193 [(0, .ref a0), (1, .int x1), (2, .int x2), (3, .int x3), (5, .int x5), (6, .int x6), (10, .int x10), (11, .int x11)] [.int xs0] h Q := by
  refine wp_run 2 (pc' := 197) (lv' := [(12, .int xs0), (0, .ref a0), (1, .int x1), (2, .int x2), (3, .int x3), (5, .int x5), (6, .int x6), (10, .int x10), (11, .int x11)]) (st' := [.int x6]) rfl ?_
  exact wp_if ⟨rfl, rfl⟩ rfl (fun hc => wp_weak (re_sb_at rfl (re_sb_at rfl (re_sb_at rfl (re_sb_at rfl (re_sb_at rfl (re_sb_at rfl (re_sb_at rfl (re_sb_at rfl (re_sb_at rfl (re_sb_nil _)))))))))) (K1 (ic1_eq hc))) (fun hc => wp_weak (re_sb_at rfl (re_sb_at rfl (re_sb_at rfl (re_sb_at rfl (re_sb_at rfl (re_sb_at rfl (re_sb_at rfl (re_sb_at rfl (re_sb_at rfl (re_sb_nil _)))))))))) (K2 (ic0_eq hc)))
set_option maxRecDepth 20000 in
theorem L582_200 {SC : List Value} {d s : Nat} {h : re_H} {Q : Nat → Value → re_H → Prop} {a0 : Nat} {x1 : Int32} {x2 : Int32} {x3 : Int32} {x5 : Int32} {x6 : Int32} {x10 : Int32} {x11 : Int32} {x12 : Int32}
    (K1 : ¬ x12 = 0 → wp SC 582 d s 319 [(0, .ref a0), (1, .int x1), (2, .int x2), (3, .int x3), (5, .int x5), (6, .int x6), (10, .int x10), (11, .int x11)] [] h Q) (K2 : x12 = 0 → wp SC 582 d s 205 [(0, .ref a0), (1, .int x1), (2, .int x2), (3, .int x3), (5, .int x5), (6, .int x6), (10, .int x10), (11, .int x11), (12, .int x12)] [] h Q) : wp SC 582 d s 200 [(0, .ref a0), (1, .int x1), (2, .int x2), (3, .int x3), (5, .int x5), (6, .int x6), (10, .int x10), (11, .int x11), (12, .int x12)] [] h Q := by
  refine wp_run 1 (pc' := 202) (lv' := [(0, .ref a0), (1, .int x1), (2, .int x2), (3, .int x3), (5, .int x5), (6, .int x6), (10, .int x10), (11, .int x11), (12, .int x12)]) (st' := [.int x12]) rfl ?_
  exact wp_if ⟨rfl, rfl⟩ rfl (fun hc => wp_weak (re_sb_at rfl (re_sb_at rfl (re_sb_at rfl (re_sb_at rfl (re_sb_at rfl (re_sb_at rfl (re_sb_at rfl (re_sb_at rfl (re_sb_nil _))))))))) (K1 (ic1_ne hc))) (fun hc => wp_weak (re_sb_at rfl (re_sb_at rfl (re_sb_at rfl (re_sb_at rfl (re_sb_at rfl (re_sb_at rfl (re_sb_at rfl (re_sb_at rfl (re_sb_at rfl (re_sb_nil _)))))))))) (K2 (ic0_ne hc)))
set_option maxRecDepth 20000 in
theorem L582_205 {SC : List Value} {d s : Nat} {h : re_H} {Q : Nat → Value → re_H → Prop} {a0 : Nat} {x1 : Int32} {x2 : Int32} {x3 : Int32} {x5 : Int32} {x6 : Int32} {x10 : Int32} {x11 : Int32} {x12 : Int32}
    (K1 : ¬ x12 = (i32 1) → wp SC 582 d s 233 [(0, .ref a0), (1, .int x1), (2, .int x2), (3, .int x3), (5, .int x5), (6, .int x6), (10, .int x10), (11, .int x11), (12, .int x12)] [] h Q) (K2 : x12 = (i32 1) → wp SC 582 d s 211 [(0, .ref a0), (1, .int x1), (2, .int x2), (3, .int x3), (5, .int x5), (6, .int x6), (10, .int x10), (11, .int x11), (12, .int x12)] [] h Q) : wp SC 582 d s 205 [(0, .ref a0), (1, .int x1), (2, .int x2), (3, .int x3), (5, .int x5), (6, .int x6), (10, .int x10), (11, .int x11), (12, .int x12)] [] h Q := by
  refine wp_run 2 (pc' := 208) (lv' := [(0, .ref a0), (1, .int x1), (2, .int x2), (3, .int x3), (5, .int x5), (6, .int x6), (10, .int x10), (11, .int x11), (12, .int x12)]) (st' := [.int (i32 1), .int x12]) rfl ?_
  exact wp_cmp ⟨rfl, rfl⟩ rfl (fun hc => wp_weak (re_sb_at rfl (re_sb_at rfl (re_sb_at rfl (re_sb_at rfl (re_sb_at rfl (re_sb_at rfl (re_sb_at rfl (re_sb_at rfl (re_sb_at rfl (re_sb_nil _)))))))))) (K1 (ic1_ne hc))) (fun hc => wp_weak (re_sb_at rfl (re_sb_at rfl (re_sb_at rfl (re_sb_at rfl (re_sb_at rfl (re_sb_at rfl (re_sb_at rfl (re_sb_at rfl (re_sb_at rfl (re_sb_nil _)))))))))) (K2 (ic0_ne hc)))
set_option maxRecDepth 20000 in
theorem L582_211 {SC : List Value} {d s : Nat} {h : re_H} {Q : Nat → Value → re_H → Prop} {a0 : Nat} {x1 : Int32} {x2 : Int32} {x3 : Int32} {x5 : Int32} {x6 : Int32} {x10 : Int32} {x11 : Int32} {x12 : Int32}
    {s1 s2 : Nat} (hs : s1 + s2 ≤ s) (K : wp SC 579 d s1 0 [(0, .ref a0), (1, .int (i32 24)), (2, .int x5), (3, .int x11)] [] h (wp_ret SC 582 (d + 1) s2 221 [(0, .ref a0), (1, .int x1), (2, .int x2), (3, .int x3), (5, .int x5), (6, .int x6), (10, .int x10), (11, .int x11), (12, .int x12)] [] Q)) : wp SC 582 (d + 1) s 211 [(0, .ref a0), (1, .int x1), (2, .int x2), (3, .int x3), (5, .int x5), (6, .int x6), (10, .int x10), (11, .int x11), (12, .int x12)] [] h Q := by
  refine wp_run 1 (pc' := 212) (lv' := [(0, .ref a0), (1, .int x1), (2, .int x2), (3, .int x3), (5, .int x5), (6, .int x6), (10, .int x10), (11, .int x11), (12, .int x12)]) (st' := [.ref a0]) rfl ?_
  refine wp_bi (x := (i32 24)) ⟨rfl, rfl⟩ (by decide) ?_
  refine wp_run 2 (pc' := 218) (lv' := [(0, .ref a0), (1, .int x1), (2, .int x2), (3, .int x3), (5, .int x5), (6, .int x6), (10, .int x10), (11, .int x11), (12, .int x12)]) (st' := [.int x11, .int x5, .int (i32 24), .ref a0]) rfl ?_
  have eA : lv_args 0 ([.int x11, .int x5, .int (i32 24), .ref a0].reverse) = [(0, .ref a0), (1, .int (i32 24)), (2, .int x5), (3, .int x11)] := by simp [lv_args, vc_i, vc_l, vc_r, vc_n, vc_a]
  refine wp_callS (ar := [.int x11, .int x5, .int (i32 24), .ref a0]) (rest := []) (s1 := s1) (s2 := s2) (d' := d) ⟨rfl, rfl⟩ rfl (Or.inr (Or.inr rfl)) rfl (by simp [re_cat, vc_i, vc_l, vc_r, vc_n, vc_a]) (by rw [show re_cat ([.int x11, .int x5, .int (i32 24), .ref a0].reverse) = 4 from by simp [re_cat, vc_i, vc_l, vc_r, vc_n, vc_a]]; decide) (by decide) rfl rfl hs ?_
  rw [eA]
  exact wp_mono K (fun k v h' z => wp_ret_weak (re_sb_at rfl (re_sb_at rfl (re_sb_at rfl (re_sb_at rfl (re_sb_at rfl (re_sb_at rfl (re_sb_at rfl (re_sb_at rfl (re_sb_at rfl (re_sb_nil _)))))))))) z)
set_option maxRecDepth 20000 in
theorem L582_221 {SC : List Value} {d s : Nat} {h : re_H} {Q : Nat → Value → re_H → Prop} {a0 : Nat} {x1 : Int32} {x2 : Int32} {x3 : Int32} {x5 : Int32} {x6 : Int32} {x10 : Int32} {x11 : Int32} {x12 : Int32} {ls0 : Int64}
    {c : Nat} {w : List Value} (eg : re_hg h a0 = some (c, w)) (ec : c = 0) {s1 s2 : Nat} (hs : s1 + s2 ≤ s) (K : wp SC 34 d s1 0 [(0, .ref a0), (1, .int x5), (2, .int x11)] [] h (wp_ret SC 582 (d + 1) s2 229 [(0, .ref a0), (1, .int x1), (2, .int x2), (3, .int x3), (5, .int x5), (6, .int x6), (10, .int x10), (11, .int x11), (12, .int x12)] [.long ls0] Q)) : wp SC 582 (d + 1) s 221 [(0, .ref a0), (1, .int x1), (2, .int x2), (3, .int x3), (5, .int x5), (6, .int x6), (10, .int x10), (11, .int x11), (12, .int x12)] [.long ls0] h Q := by
  refine wp_run 3 (pc' := 226) (lv' := [(0, .ref a0), (1, .int x1), (2, .int x2), (3, .int x3), (5, .int x5), (6, .int x6), (10, .int x10), (11, .int x11), (12, .int x12)]) (st' := [.int x11, .int x5, .ref a0, .long ls0]) rfl ?_
  have eA : lv_args 0 (.ref a0 :: [.int x11, .int x5].reverse) = [(0, .ref a0), (1, .int x5), (2, .int x11)] := by simp [lv_args, vc_i, vc_l, vc_r, vc_n, vc_a]
  refine wp_callV (ar := [.int x11, .int x5]) (rest := [.long ls0]) (s1 := s1) (s2 := s2) (d' := d) ⟨rfl, rfl⟩ rfl (Or.inl rfl)  (by simp [re_cat, vc_i, vc_l, vc_r, vc_n, vc_a]) (by rw [show re_cat (.ref a0 :: [.int x11, .int x5].reverse) = 3 from by simp [re_cat, vc_i, vc_l, vc_r, vc_n, vc_a]]; decide) (by decide) rfl eg ec rfl hs ?_
  rw [eA]
  exact wp_mono K (fun k v h' z => wp_ret_weak (re_sb_at rfl (re_sb_at rfl (re_sb_at rfl (re_sb_at rfl (re_sb_at rfl (re_sb_at rfl (re_sb_at rfl (re_sb_at rfl (re_sb_at rfl (re_sb_nil _)))))))))) z)
set_option maxRecDepth 20000 in
theorem L582_229 {SC : List Value} {d s : Nat} {h : re_H} {Q : Nat → Value → re_H → Prop} {a0 : Nat} {x1 : Int32} {x2 : Int32} {x3 : Int32} {x5 : Int32} {x6 : Int32} {x10 : Int32} {x11 : Int32} {x12 : Int32} {ls0 : Int64} {ls1 : Int64}
    (K1 : ¬ ls1 = ls0 → wp SC 582 d s 319 [(0, .ref a0), (1, .int x1), (2, .int x2), (3, .int x3), (5, .int x5), (6, .int x6), (10, .int x10), (11, .int x11)] [] h Q) (K2 : ls1 = ls0 → wp SC 582 d s 233 [(0, .ref a0), (1, .int x1), (2, .int x2), (3, .int x3), (5, .int x5), (6, .int x6), (10, .int x10), (11, .int x11), (12, .int x12)] [] h Q) : wp SC 582 d s 229 [(0, .ref a0), (1, .int x1), (2, .int x2), (3, .int x3), (5, .int x5), (6, .int x6), (10, .int x10), (11, .int x11), (12, .int x12)] [.long ls0, .long ls1] h Q := by
  refine wp_run 1 (pc' := 230) (lv' := [(0, .ref a0), (1, .int x1), (2, .int x2), (3, .int x3), (5, .int x5), (6, .int x6), (10, .int x10), (11, .int x11), (12, .int x12)]) (st' := [.int (lg_cmp ls1 ls0)]) rfl ?_
  exact wp_if ⟨rfl, rfl⟩ rfl (fun hc => wp_weak (re_sb_at rfl (re_sb_at rfl (re_sb_at rfl (re_sb_at rfl (re_sb_at rfl (re_sb_at rfl (re_sb_at rfl (re_sb_at rfl (re_sb_nil _))))))))) (K1 (lc1_ne hc))) (fun hc => wp_weak (re_sb_at rfl (re_sb_at rfl (re_sb_at rfl (re_sb_at rfl (re_sb_at rfl (re_sb_at rfl (re_sb_at rfl (re_sb_at rfl (re_sb_at rfl (re_sb_nil _)))))))))) (K2 (lc0_ne hc)))
set_option maxRecDepth 20000 in
theorem L582_233 {SC : List Value} {d s : Nat} {h : re_H} {Q : Nat → Value → re_H → Prop} {a0 : Nat} {x1 : Int32} {x2 : Int32} {x3 : Int32} {x5 : Int32} {x6 : Int32} {x10 : Int32} {x11 : Int32} {x12 : Int32}
    (K1 : x12 = (i32 1) → wp SC 582 d s 256 [(0, .ref a0), (1, .int x1), (2, .int x2), (3, .int x3), (5, .int x5), (6, .int x6), (10, .int x10), (11, .int x11), (12, .int x12)] [] h Q) (K2 : ¬ x12 = (i32 1) → wp SC 582 d s 239 [(0, .ref a0), (1, .int x1), (2, .int x2), (3, .int x3), (5, .int x5), (6, .int x6), (10, .int x10), (11, .int x11), (12, .int x12)] [] h Q) : wp SC 582 d s 233 [(0, .ref a0), (1, .int x1), (2, .int x2), (3, .int x3), (5, .int x5), (6, .int x6), (10, .int x10), (11, .int x11), (12, .int x12)] [] h Q := by
  refine wp_run 2 (pc' := 236) (lv' := [(0, .ref a0), (1, .int x1), (2, .int x2), (3, .int x3), (5, .int x5), (6, .int x6), (10, .int x10), (11, .int x11), (12, .int x12)]) (st' := [.int (i32 1), .int x12]) rfl ?_
  exact wp_cmp ⟨rfl, rfl⟩ rfl (fun hc => wp_weak (re_sb_at rfl (re_sb_at rfl (re_sb_at rfl (re_sb_at rfl (re_sb_at rfl (re_sb_at rfl (re_sb_at rfl (re_sb_at rfl (re_sb_at rfl (re_sb_nil _)))))))))) (K1 (ic1_eq hc))) (fun hc => wp_weak (re_sb_at rfl (re_sb_at rfl (re_sb_at rfl (re_sb_at rfl (re_sb_at rfl (re_sb_at rfl (re_sb_at rfl (re_sb_at rfl (re_sb_at rfl (re_sb_nil _)))))))))) (K2 (ic0_eq hc)))
set_option maxRecDepth 20000 in
theorem L582_239 {SC : List Value} {d s : Nat} {h : re_H} {Q : Nat → Value → re_H → Prop} {a0 : Nat} {x1 : Int32} {x2 : Int32} {x3 : Int32} {x5 : Int32} {x6 : Int32} {x10 : Int32} {x11 : Int32} {x12 : Int32}
    {s1 s2 : Nat} (hs : s1 + s2 ≤ s) (K : wp SC 579 d s1 0 [(0, .ref a0), (1, .int (i32 24)), (2, .int x5), (3, .int x11)] [] h (wp_ret SC 582 (d + 1) s2 249 [(0, .ref a0), (1, .int x1), (2, .int x2), (3, .int x3), (5, .int x5), (6, .int x6), (10, .int x10), (11, .int x11), (12, .int x12)] [] Q)) : wp SC 582 (d + 1) s 239 [(0, .ref a0), (1, .int x1), (2, .int x2), (3, .int x3), (5, .int x5), (6, .int x6), (10, .int x10), (11, .int x11), (12, .int x12)] [] h Q := by
  refine wp_run 1 (pc' := 240) (lv' := [(0, .ref a0), (1, .int x1), (2, .int x2), (3, .int x3), (5, .int x5), (6, .int x6), (10, .int x10), (11, .int x11), (12, .int x12)]) (st' := [.ref a0]) rfl ?_
  refine wp_bi (x := (i32 24)) ⟨rfl, rfl⟩ (by decide) ?_
  refine wp_run 2 (pc' := 246) (lv' := [(0, .ref a0), (1, .int x1), (2, .int x2), (3, .int x3), (5, .int x5), (6, .int x6), (10, .int x10), (11, .int x11), (12, .int x12)]) (st' := [.int x11, .int x5, .int (i32 24), .ref a0]) rfl ?_
  have eA : lv_args 0 ([.int x11, .int x5, .int (i32 24), .ref a0].reverse) = [(0, .ref a0), (1, .int (i32 24)), (2, .int x5), (3, .int x11)] := by simp [lv_args, vc_i, vc_l, vc_r, vc_n, vc_a]
  refine wp_callS (ar := [.int x11, .int x5, .int (i32 24), .ref a0]) (rest := []) (s1 := s1) (s2 := s2) (d' := d) ⟨rfl, rfl⟩ rfl (Or.inr (Or.inr rfl)) rfl (by simp [re_cat, vc_i, vc_l, vc_r, vc_n, vc_a]) (by rw [show re_cat ([.int x11, .int x5, .int (i32 24), .ref a0].reverse) = 4 from by simp [re_cat, vc_i, vc_l, vc_r, vc_n, vc_a]]; decide) (by decide) rfl rfl hs ?_
  rw [eA]
  exact wp_mono K (fun k v h' z => wp_ret_weak (re_sb_at rfl (re_sb_at rfl (re_sb_at rfl (re_sb_at rfl (re_sb_at rfl (re_sb_at rfl (re_sb_at rfl (re_sb_at rfl (re_sb_at rfl (re_sb_nil _)))))))))) z)
set_option maxRecDepth 20000 in
theorem L582_249 {SC : List Value} {d s : Nat} {h : re_H} {Q : Nat → Value → re_H → Prop} {a0 : Nat} {x1 : Int32} {x2 : Int32} {x3 : Int32} {x5 : Int32} {x6 : Int32} {x10 : Int32} {x11 : Int32} {x12 : Int32} {ls0 : Int64}
    (K1 : ¬ ls0 = (-2000000003) → wp SC 582 d s 319 [(0, .ref a0), (1, .int x1), (2, .int x2), (3, .int x3), (5, .int x5), (6, .int x6), (10, .int x10), (11, .int x11)] [] h Q) (K2 : ls0 = (-2000000003) → wp SC 582 d s 256 [(0, .ref a0), (1, .int x1), (2, .int x2), (3, .int x3), (5, .int x5), (6, .int x6), (10, .int x10), (11, .int x11), (12, .int x12)] [] h Q) : wp SC 582 d s 249 [(0, .ref a0), (1, .int x1), (2, .int x2), (3, .int x3), (5, .int x5), (6, .int x6), (10, .int x10), (11, .int x11), (12, .int x12)] [.long ls0] h Q := by
  refine wp_cst (pc' := 252) (v := .long (-2000000003)) ⟨rfl, rfl⟩ rfl rfl rfl rfl rfl ?_
  refine wp_run 1 (pc' := 253) (lv' := [(0, .ref a0), (1, .int x1), (2, .int x2), (3, .int x3), (5, .int x5), (6, .int x6), (10, .int x10), (11, .int x11), (12, .int x12)]) (st' := [.int (lg_cmp ls0 (-2000000003))]) rfl ?_
  exact wp_if ⟨rfl, rfl⟩ rfl (fun hc => wp_weak (re_sb_at rfl (re_sb_at rfl (re_sb_at rfl (re_sb_at rfl (re_sb_at rfl (re_sb_at rfl (re_sb_at rfl (re_sb_at rfl (re_sb_nil _))))))))) (K1 (lc1_ne hc))) (fun hc => wp_weak (re_sb_at rfl (re_sb_at rfl (re_sb_at rfl (re_sb_at rfl (re_sb_at rfl (re_sb_at rfl (re_sb_at rfl (re_sb_at rfl (re_sb_at rfl (re_sb_nil _)))))))))) (K2 (lc0_ne hc)))
set_option maxRecDepth 20000 in
theorem L582_256 {SC : List Value} {d s : Nat} {h : re_H} {Q : Nat → Value → re_H → Prop} {a0 : Nat} {x1 : Int32} {x2 : Int32} {x3 : Int32} {x5 : Int32} {x6 : Int32} {x10 : Int32} {x11 : Int32} {x12 : Int32}
    (K1 : ¬ x10 = 0 → wp SC 582 d s 315 [(0, .ref a0), (1, .int x1), (2, .int x2), (3, .int x3), (5, .int x5), (6, .int x6), (10, .int x10), (11, .int x11)] [] h Q) (K2 : x10 = 0 → wp SC 582 d s 261 [(0, .ref a0), (1, .int x1), (2, .int x2), (3, .int x3), (5, .int x5), (6, .int x6), (10, .int x10), (11, .int x11), (12, .int x12)] [] h Q) : wp SC 582 d s 256 [(0, .ref a0), (1, .int x1), (2, .int x2), (3, .int x3), (5, .int x5), (6, .int x6), (10, .int x10), (11, .int x11), (12, .int x12)] [] h Q := by
  refine wp_run 1 (pc' := 258) (lv' := [(0, .ref a0), (1, .int x1), (2, .int x2), (3, .int x3), (5, .int x5), (6, .int x6), (10, .int x10), (11, .int x11), (12, .int x12)]) (st' := [.int x10]) rfl ?_
  exact wp_if ⟨rfl, rfl⟩ rfl (fun hc => wp_weak (re_sb_at rfl (re_sb_at rfl (re_sb_at rfl (re_sb_at rfl (re_sb_at rfl (re_sb_at rfl (re_sb_at rfl (re_sb_at rfl (re_sb_nil _))))))))) (K1 (ic1_ne hc))) (fun hc => wp_weak (re_sb_at rfl (re_sb_at rfl (re_sb_at rfl (re_sb_at rfl (re_sb_at rfl (re_sb_at rfl (re_sb_at rfl (re_sb_at rfl (re_sb_at rfl (re_sb_nil _)))))))))) (K2 (ic0_ne hc)))
set_option maxRecDepth 20000 in
theorem L582_261 {SC : List Value} {d s : Nat} {h : re_H} {Q : Nat → Value → re_H → Prop} {a0 : Nat} {x1 : Int32} {x2 : Int32} {x3 : Int32} {x5 : Int32} {x6 : Int32} {x10 : Int32} {x11 : Int32} {x12 : Int32}
    (K1 : ¬ x12 = (i32 1) → wp SC 582 d s 290 [(0, .ref a0), (1, .int x1), (2, .int x2), (3, .int x3), (5, .int x5), (6, .int x6), (10, .int x10), (11, .int x11)] [] h Q) (K2 : x12 = (i32 1) → wp SC 582 d s 267 [(0, .ref a0), (1, .int x1), (2, .int x2), (3, .int x3), (5, .int x5), (6, .int x6), (10, .int x10), (11, .int x11)] [] h Q) : wp SC 582 d s 261 [(0, .ref a0), (1, .int x1), (2, .int x2), (3, .int x3), (5, .int x5), (6, .int x6), (10, .int x10), (11, .int x11), (12, .int x12)] [] h Q := by
  refine wp_run 2 (pc' := 264) (lv' := [(0, .ref a0), (1, .int x1), (2, .int x2), (3, .int x3), (5, .int x5), (6, .int x6), (10, .int x10), (11, .int x11), (12, .int x12)]) (st' := [.int (i32 1), .int x12]) rfl ?_
  exact wp_cmp ⟨rfl, rfl⟩ rfl (fun hc => wp_weak (re_sb_at rfl (re_sb_at rfl (re_sb_at rfl (re_sb_at rfl (re_sb_at rfl (re_sb_at rfl (re_sb_at rfl (re_sb_at rfl (re_sb_nil _))))))))) (K1 (ic1_ne hc))) (fun hc => wp_weak (re_sb_at rfl (re_sb_at rfl (re_sb_at rfl (re_sb_at rfl (re_sb_at rfl (re_sb_at rfl (re_sb_at rfl (re_sb_at rfl (re_sb_nil _))))))))) (K2 (ic0_ne hc)))
set_option maxRecDepth 20000 in
theorem L582_267 {SC : List Value} {d s : Nat} {h : re_H} {Q : Nat → Value → re_H → Prop} {a0 : Nat} {x1 : Int32} {x2 : Int32} {x3 : Int32} {x5 : Int32} {x6 : Int32} {x10 : Int32} {x11 : Int32}
    {c : Nat} {w : List Value} (eg : re_hg h a0 = some (c, w)) (ec : c = 0) {s1 s2 : Nat} (hs : s1 + s2 ≤ s) (K : wp SC 35 d s1 0 [(0, .ref a0), (1, .int x5), (2, .int x11)] [] h (wp_ret SC 582 (d + 1) s2 275 [(0, .ref a0), (1, .int x1), (2, .int x2), (3, .int x3), (5, .int x5), (6, .int x6), (10, .int x10), (11, .int x11)] [] Q)) : wp SC 582 (d + 1) s 267 [(0, .ref a0), (1, .int x1), (2, .int x2), (3, .int x3), (5, .int x5), (6, .int x6), (10, .int x10), (11, .int x11)] [] h Q := by
  refine wp_run 3 (pc' := 272) (lv' := [(0, .ref a0), (1, .int x1), (2, .int x2), (3, .int x3), (5, .int x5), (6, .int x6), (10, .int x10), (11, .int x11)]) (st' := [.int x11, .int x5, .ref a0]) rfl ?_
  have eA : lv_args 0 (.ref a0 :: [.int x11, .int x5].reverse) = [(0, .ref a0), (1, .int x5), (2, .int x11)] := by simp [lv_args, vc_i, vc_l, vc_r, vc_n, vc_a]
  refine wp_callV (ar := [.int x11, .int x5]) (rest := []) (s1 := s1) (s2 := s2) (d' := d) ⟨rfl, rfl⟩ rfl (Or.inl rfl)  (by simp [re_cat, vc_i, vc_l, vc_r, vc_n, vc_a]) (by rw [show re_cat (.ref a0 :: [.int x11, .int x5].reverse) = 3 from by simp [re_cat, vc_i, vc_l, vc_r, vc_n, vc_a]]; decide) (by decide) rfl eg ec rfl hs ?_
  rw [eA]
  exact wp_mono K (fun k v h' z => wp_ret_weak (re_sb_at rfl (re_sb_at rfl (re_sb_at rfl (re_sb_at rfl (re_sb_at rfl (re_sb_at rfl (re_sb_at rfl (re_sb_at rfl (re_sb_nil _))))))))) z)
set_option maxRecDepth 20000 in
theorem L582_275 {SC : List Value} {d s : Nat} {h : re_H} {Q : Nat → Value → re_H → Prop} {a0 : Nat} {x1 : Int32} {x2 : Int32} {x3 : Int32} {x5 : Int32} {x6 : Int32} {x10 : Int32} {x11 : Int32} {ls0 : Int64}
    {c : Nat} {w : List Value} (eg : re_hg h a0 = some (c, w)) (ec : c = 0) {s1 s2 : Nat} (hs : s1 + s2 ≤ s) (K : wp SC 34 d s1 0 [(0, .ref a0), (1, .int x5), (2, .int x11)] [] h (wp_ret SC 582 (d + 1) s2 283 [(0, .ref a0), (1, .int x1), (2, .int x2), (3, .int x3), (5, .int x5), (6, .int x6), (10, .int x10), (11, .int x11)] [.long ls0] Q)) : wp SC 582 (d + 1) s 275 [(0, .ref a0), (1, .int x1), (2, .int x2), (3, .int x3), (5, .int x5), (6, .int x6), (10, .int x10), (11, .int x11)] [.long ls0] h Q := by
  refine wp_run 3 (pc' := 280) (lv' := [(0, .ref a0), (1, .int x1), (2, .int x2), (3, .int x3), (5, .int x5), (6, .int x6), (10, .int x10), (11, .int x11)]) (st' := [.int x11, .int x5, .ref a0, .long ls0]) rfl ?_
  have eA : lv_args 0 (.ref a0 :: [.int x11, .int x5].reverse) = [(0, .ref a0), (1, .int x5), (2, .int x11)] := by simp [lv_args, vc_i, vc_l, vc_r, vc_n, vc_a]
  refine wp_callV (ar := [.int x11, .int x5]) (rest := [.long ls0]) (s1 := s1) (s2 := s2) (d' := d) ⟨rfl, rfl⟩ rfl (Or.inl rfl)  (by simp [re_cat, vc_i, vc_l, vc_r, vc_n, vc_a]) (by rw [show re_cat (.ref a0 :: [.int x11, .int x5].reverse) = 3 from by simp [re_cat, vc_i, vc_l, vc_r, vc_n, vc_a]]; decide) (by decide) rfl eg ec rfl hs ?_
  rw [eA]
  exact wp_mono K (fun k v h' z => wp_ret_weak (re_sb_at rfl (re_sb_at rfl (re_sb_at rfl (re_sb_at rfl (re_sb_at rfl (re_sb_at rfl (re_sb_at rfl (re_sb_at rfl (re_sb_nil _))))))))) z)
set_option maxRecDepth 20000 in
theorem L582_283 {SC : List Value} {d s : Nat} {h : re_H} {Q : Nat → Value → re_H → Prop} {a0 : Nat} {x1 : Int32} {x2 : Int32} {x3 : Int32} {x5 : Int32} {x6 : Int32} {x10 : Int32} {x11 : Int32} {ls0 : Int64} {ls1 : Int64}
    (K1 : ¬ ls1 = ls0 → wp SC 582 d s 319 [(0, .ref a0), (1, .int x1), (2, .int x2), (3, .int x3), (5, .int x5), (6, .int x6), (10, .int x10), (11, .int x11)] [] h Q) (K2 : ls1 = ls0 → wp SC 582 d s 287 [(0, .ref a0), (1, .int x1), (2, .int x2), (3, .int x3), (5, .int x5), (6, .int x6), (10, .int x10), (11, .int x11)] [] h Q) : wp SC 582 d s 283 [(0, .ref a0), (1, .int x1), (2, .int x2), (3, .int x3), (5, .int x5), (6, .int x6), (10, .int x10), (11, .int x11)] [.long ls0, .long ls1] h Q := by
  refine wp_run 1 (pc' := 284) (lv' := [(0, .ref a0), (1, .int x1), (2, .int x2), (3, .int x3), (5, .int x5), (6, .int x6), (10, .int x10), (11, .int x11)]) (st' := [.int (lg_cmp ls1 ls0)]) rfl ?_
  exact wp_if ⟨rfl, rfl⟩ rfl (fun hc => wp_weak (re_sb_at rfl (re_sb_at rfl (re_sb_at rfl (re_sb_at rfl (re_sb_at rfl (re_sb_at rfl (re_sb_at rfl (re_sb_at rfl (re_sb_nil _))))))))) (K1 (lc1_ne hc))) (fun hc => wp_weak (re_sb_at rfl (re_sb_at rfl (re_sb_at rfl (re_sb_at rfl (re_sb_at rfl (re_sb_at rfl (re_sb_at rfl (re_sb_at rfl (re_sb_nil _))))))))) (K2 (lc0_ne hc)))
set_option maxRecDepth 20000 in
theorem L582_287 {SC : List Value} {d s : Nat} {h : re_H} {Q : Nat → Value → re_H → Prop} {a0 : Nat} {x1 : Int32} {x2 : Int32} {x3 : Int32} {x5 : Int32} {x6 : Int32} {x10 : Int32} {x11 : Int32}
    (K : wp SC 582 d s 315 [(0, .ref a0), (1, .int x1), (2, .int x2), (3, .int x3), (5, .int x5), (6, .int x6), (10, .int x10), (11, .int x11)] [] h Q) : wp SC 582 d s 287 [(0, .ref a0), (1, .int x1), (2, .int x2), (3, .int x3), (5, .int x5), (6, .int x6), (10, .int x10), (11, .int x11)] [] h Q := by
  refine wp_run 1 (pc' := 315) (lv' := [(0, .ref a0), (1, .int x1), (2, .int x2), (3, .int x3), (5, .int x5), (6, .int x6), (10, .int x10), (11, .int x11)]) (st' := []) rfl ?_
  exact wp_weak (re_sb_at rfl (re_sb_at rfl (re_sb_at rfl (re_sb_at rfl (re_sb_at rfl (re_sb_at rfl (re_sb_at rfl (re_sb_at rfl (re_sb_nil _))))))))) K
set_option maxRecDepth 20000 in
theorem L582_290 {SC : List Value} {d s : Nat} {h : re_H} {Q : Nat → Value → re_H → Prop} {a0 : Nat} {x1 : Int32} {x2 : Int32} {x3 : Int32} {x5 : Int32} {x6 : Int32} {x10 : Int32} {x11 : Int32}
    (K1 : ¬ x11 = (x5 - x5 / (i32 6) * (i32 6)) → wp SC 582 d s 315 [(0, .ref a0), (1, .int x1), (2, .int x2), (3, .int x3), (5, .int x5), (6, .int x6), (10, .int x10), (11, .int x11)] [] h Q) (K2 : x11 = (x5 - x5 / (i32 6) * (i32 6)) → wp SC 582 d s 300 [(0, .ref a0), (1, .int x1), (2, .int x2), (3, .int x3), (5, .int x5), (6, .int x6), (10, .int x10), (11, .int x11)] [] h Q) : wp SC 582 d s 290 [(0, .ref a0), (1, .int x1), (2, .int x2), (3, .int x3), (5, .int x5), (6, .int x6), (10, .int x10), (11, .int x11)] [] h Q := by
  refine wp_run 2 (pc' := 294) (lv' := [(0, .ref a0), (1, .int x1), (2, .int x2), (3, .int x3), (5, .int x5), (6, .int x6), (10, .int x10), (11, .int x11)]) (st' := [.int x5, .int x11]) rfl ?_
  refine wp_bi (x := (i32 6)) ⟨rfl, rfl⟩ (by decide) ?_
  refine wp_pure (pc' := 297) (lv' := [(0, .ref a0), (1, .int x1), (2, .int x2), (3, .int x3), (5, .int x5), (6, .int x6), (10, .int x10), (11, .int x11)]) (st' := [.int (x5 - x5 / (i32 6) * (i32 6)), .int x11]) ⟨rfl, rfl⟩ (by simp only [re_pure, if_neg (show ¬ (i32 6) = 0 from by decide)]) ?_
  exact wp_cmp ⟨rfl, rfl⟩ rfl (fun hc => wp_weak (re_sb_at rfl (re_sb_at rfl (re_sb_at rfl (re_sb_at rfl (re_sb_at rfl (re_sb_at rfl (re_sb_at rfl (re_sb_at rfl (re_sb_nil _))))))))) (K1 (ic1_ne hc))) (fun hc => wp_weak (re_sb_at rfl (re_sb_at rfl (re_sb_at rfl (re_sb_at rfl (re_sb_at rfl (re_sb_at rfl (re_sb_at rfl (re_sb_at rfl (re_sb_nil _))))))))) (K2 (ic0_ne hc)))
set_option maxRecDepth 20000 in
theorem L582_300 {SC : List Value} {d s : Nat} {h : re_H} {Q : Nat → Value → re_H → Prop} {a0 : Nat} {x1 : Int32} {x2 : Int32} {x3 : Int32} {x5 : Int32} {x6 : Int32} {x10 : Int32} {x11 : Int32}
    {c : Nat} {w : List Value} (eg : re_hg h a0 = some (c, w)) (ec : c = 0) {s1 s2 : Nat} (hs : s1 + s2 ≤ s) (K : wp SC 35 d s1 0 [(0, .ref a0), (1, .int x5), (2, .int x11)] [] h (wp_ret SC 582 (d + 1) s2 308 [(0, .ref a0), (1, .int x1), (2, .int x2), (3, .int x3), (5, .int x5), (6, .int x6), (10, .int x10), (11, .int x11)] [] Q)) : wp SC 582 (d + 1) s 300 [(0, .ref a0), (1, .int x1), (2, .int x2), (3, .int x3), (5, .int x5), (6, .int x6), (10, .int x10), (11, .int x11)] [] h Q := by
  refine wp_run 3 (pc' := 305) (lv' := [(0, .ref a0), (1, .int x1), (2, .int x2), (3, .int x3), (5, .int x5), (6, .int x6), (10, .int x10), (11, .int x11)]) (st' := [.int x11, .int x5, .ref a0]) rfl ?_
  have eA : lv_args 0 (.ref a0 :: [.int x11, .int x5].reverse) = [(0, .ref a0), (1, .int x5), (2, .int x11)] := by simp [lv_args, vc_i, vc_l, vc_r, vc_n, vc_a]
  refine wp_callV (ar := [.int x11, .int x5]) (rest := []) (s1 := s1) (s2 := s2) (d' := d) ⟨rfl, rfl⟩ rfl (Or.inl rfl)  (by simp [re_cat, vc_i, vc_l, vc_r, vc_n, vc_a]) (by rw [show re_cat (.ref a0 :: [.int x11, .int x5].reverse) = 3 from by simp [re_cat, vc_i, vc_l, vc_r, vc_n, vc_a]]; decide) (by decide) rfl eg ec rfl hs ?_
  rw [eA]
  exact wp_mono K (fun k v h' z => wp_ret_weak (re_sb_at rfl (re_sb_at rfl (re_sb_at rfl (re_sb_at rfl (re_sb_at rfl (re_sb_at rfl (re_sb_at rfl (re_sb_at rfl (re_sb_nil _))))))))) z)
set_option maxRecDepth 20000 in
theorem L582_308 {SC : List Value} {d s : Nat} {h : re_H} {Q : Nat → Value → re_H → Prop} {a0 : Nat} {x1 : Int32} {x2 : Int32} {x3 : Int32} {x5 : Int32} {x6 : Int32} {x10 : Int32} {x11 : Int32} {ls0 : Int64}
    (K1 : ¬ ls0 = (-1) → wp SC 582 d s 319 [(0, .ref a0), (1, .int x1), (2, .int x2), (3, .int x3), (5, .int x5), (6, .int x6), (10, .int x10), (11, .int x11)] [] h Q) (K2 : ls0 = (-1) → wp SC 582 d s 315 [(0, .ref a0), (1, .int x1), (2, .int x2), (3, .int x3), (5, .int x5), (6, .int x6), (10, .int x10), (11, .int x11)] [] h Q) : wp SC 582 d s 308 [(0, .ref a0), (1, .int x1), (2, .int x2), (3, .int x3), (5, .int x5), (6, .int x6), (10, .int x10), (11, .int x11)] [.long ls0] h Q := by
  refine wp_cst (pc' := 311) (v := .long (-1)) ⟨rfl, rfl⟩ rfl rfl rfl rfl rfl ?_
  refine wp_run 1 (pc' := 312) (lv' := [(0, .ref a0), (1, .int x1), (2, .int x2), (3, .int x3), (5, .int x5), (6, .int x6), (10, .int x10), (11, .int x11)]) (st' := [.int (lg_cmp ls0 (-1))]) rfl ?_
  exact wp_if ⟨rfl, rfl⟩ rfl (fun hc => wp_weak (re_sb_at rfl (re_sb_at rfl (re_sb_at rfl (re_sb_at rfl (re_sb_at rfl (re_sb_at rfl (re_sb_at rfl (re_sb_at rfl (re_sb_nil _))))))))) (K1 (lc1_ne hc))) (fun hc => wp_weak (re_sb_at rfl (re_sb_at rfl (re_sb_at rfl (re_sb_at rfl (re_sb_at rfl (re_sb_at rfl (re_sb_at rfl (re_sb_at rfl (re_sb_nil _))))))))) (K2 (lc0_ne hc)))
set_option maxRecDepth 20000 in
theorem L582_315 {SC : List Value} {d s : Nat} {h : re_H} {Q : Nat → Value → re_H → Prop} {a0 : Nat} {x1 : Int32} {x2 : Int32} {x3 : Int32} {x5 : Int32} {x6 : Int32} {x10 : Int32} {x11 : Int32}
    (K : wp SC 582 d s 320 [(0, .ref a0), (1, .int x1), (2, .int x2), (3, .int x3), (5, .int x5), (6, .int x6), (10, .int x10), (11, .int x11)] [.int (i32 1)] h Q) : wp SC 582 d s 315 [(0, .ref a0), (1, .int x1), (2, .int x2), (3, .int x3), (5, .int x5), (6, .int x6), (10, .int x10), (11, .int x11)] [] h Q := by
  refine wp_run 2 (pc' := 320) (lv' := [(0, .ref a0), (1, .int x1), (2, .int x2), (3, .int x3), (5, .int x5), (6, .int x6), (10, .int x10), (11, .int x11)]) (st' := [.int (i32 1)]) rfl ?_
  exact wp_weak (re_sb_at rfl (re_sb_at rfl (re_sb_at rfl (re_sb_at rfl (re_sb_at rfl (re_sb_at rfl (re_sb_at rfl (re_sb_at rfl (re_sb_nil _))))))))) K
set_option maxRecDepth 20000 in
theorem L582_319 {SC : List Value} {d s : Nat} {h : re_H} {Q : Nat → Value → re_H → Prop} {a0 : Nat} {x1 : Int32} {x2 : Int32} {x3 : Int32} {x5 : Int32} {x6 : Int32} {x10 : Int32} {x11 : Int32}
    (K : wp SC 582 d s 320 [(0, .ref a0), (1, .int x1), (2, .int x2), (3, .int x3), (5, .int x5), (6, .int x6), (10, .int x10), (11, .int x11)] [.int (i32 0)] h Q) : wp SC 582 d s 319 [(0, .ref a0), (1, .int x1), (2, .int x2), (3, .int x3), (5, .int x5), (6, .int x6), (10, .int x10), (11, .int x11)] [] h Q := by
  refine wp_run 1 (pc' := 320) (lv' := [(0, .ref a0), (1, .int x1), (2, .int x2), (3, .int x3), (5, .int x5), (6, .int x6), (10, .int x10), (11, .int x11)]) (st' := [.int (i32 0)]) rfl ?_
  exact wp_weak (re_sb_at rfl (re_sb_at rfl (re_sb_at rfl (re_sb_at rfl (re_sb_at rfl (re_sb_at rfl (re_sb_at rfl (re_sb_at rfl (re_sb_nil _))))))))) K
set_option maxRecDepth 20000 in
theorem L582_320 {SC : List Value} {d s : Nat} {h : re_H} {Q : Nat → Value → re_H → Prop} {a0 : Nat} {x1 : Int32} {x2 : Int32} {x3 : Int32} {x5 : Int32} {x6 : Int32} {x10 : Int32} {x11 : Int32} {xs0 : Int32}
    (K : wp SC 582 d s 173 [(0, .ref a0), (1, .int x1), (2, .int x2), (3, .int x3), (4, .int xs0), (5, .int x5), (6, .int x6), (10, .int x10), (11, .int (x11 + (i32 1)))] [] h Q) : wp SC 582 d s 320 [(0, .ref a0), (1, .int x1), (2, .int x2), (3, .int x3), (5, .int x5), (6, .int x6), (10, .int x10), (11, .int x11)] [.int xs0] h Q := by
  refine wp_run 3 (pc' := 173) (lv' := [(11, .int (x11 + (i32 1))), (4, .int xs0), (0, .ref a0), (1, .int x1), (2, .int x2), (3, .int x3), (5, .int x5), (6, .int x6), (10, .int x10)]) (st' := []) rfl ?_
  exact wp_weak (re_sb_at rfl (re_sb_at rfl (re_sb_at rfl (re_sb_at rfl (re_sb_at rfl (re_sb_at rfl (re_sb_at rfl (re_sb_at rfl (re_sb_at rfl (re_sb_nil _)))))))))) K
set_option maxRecDepth 20000 in
theorem L582_328 {SC : List Value} {d s : Nat} {h : re_H} {Q : Nat → Value → re_H → Prop} {a0 : Nat} {x1 : Int32} {x2 : Int32} {x3 : Int32} {x4 : Int32} {x5 : Int32}
    (K : wp SC 582 d s 6 [(0, .ref a0), (1, .int x1), (2, .int x2), (3, .int x3), (4, .int x4), (5, .int (x5 + (i32 1)))] [] h Q) : wp SC 582 d s 328 [(0, .ref a0), (1, .int x1), (2, .int x2), (3, .int x3), (4, .int x4), (5, .int x5)] [] h Q := by
  refine wp_run 2 (pc' := 6) (lv' := [(5, .int (x5 + (i32 1))), (0, .ref a0), (1, .int x1), (2, .int x2), (3, .int x3), (4, .int x4)]) (st' := []) rfl ?_
  exact wp_weak (re_sb_at rfl (re_sb_at rfl (re_sb_at rfl (re_sb_at rfl (re_sb_at rfl (re_sb_at rfl (re_sb_nil _))))))) K
set_option maxRecDepth 20000 in
theorem L582_334 {SC : List Value} {d s : Nat} {h : re_H} {Q : Nat → Value → re_H → Prop} {x4 : Int32}
    (hz : x4 = 0 ∨ x4 = 1) (K : Q 1 (.int x4) h) : wp SC 582 d s 334 [(4, .int x4)] [] h Q := by
  refine wp_run 1 (pc' := 336) (lv' := [(4, .int x4)]) (st' := [.int x4]) rfl ?_
  exact wp_retz ⟨rfl, rfl⟩ rfl hz K
theorem L583_0 {SC : List Value} {d s : Nat} {h : re_H} {Q : Nat → Value → re_H → Prop} {a0 : Nat} {x1 : Int32} {x2 : Int32}
    {c : Nat} {w : List Value} (eg : re_hg h a0 = some (c, w)) (ec : c = 0) {s1 s2 : Nat} (hs : s1 + s2 ≤ s) (K : wp SC 38 d s1 0 [(0, .ref a0), (1, .int x2)] [] h (wp_ret SC 583 (d + 1) s2 5 [(0, .ref a0), (1, .int x1)] [] Q)) : wp SC 583 (d + 1) s 0 [(0, .ref a0), (1, .int x1), (2, .int x2)] [] h Q := by
  refine wp_run 2 (pc' := 2) (lv' := [(0, .ref a0), (1, .int x1), (2, .int x2)]) (st' := [.int x2, .ref a0]) rfl ?_
  have eA : lv_args 0 (.ref a0 :: [.int x2].reverse) = [(0, .ref a0), (1, .int x2)] := by simp [lv_args, vc_i, vc_l, vc_r, vc_n, vc_a]
  refine wp_callV (ar := [.int x2]) (rest := []) (s1 := s1) (s2 := s2) (d' := d) ⟨rfl, rfl⟩ rfl (Or.inl rfl)  (by simp [re_cat, vc_i, vc_l, vc_r, vc_n, vc_a]) (by rw [show re_cat (.ref a0 :: [.int x2].reverse) = 2 from by simp [re_cat, vc_i, vc_l, vc_r, vc_n, vc_a]]; decide) (by decide) rfl eg ec rfl hs ?_
  rw [eA]
  exact wp_mono K (fun k v h' z => wp_ret_weak (re_sb_at rfl (re_sb_at rfl (re_sb_nil _))) z)
theorem L583_5 {SC : List Value} {d s : Nat} {h : re_H} {Q : Nat → Value → re_H → Prop} {a0 : Nat} {x1 : Int32} {xs0 : Int32}
    (K : wp SC 583 d s 12 [(0, .ref a0), (1, .int x1), (3, .int xs0), (4, .int (i32 1)), (5, .int (i32 0))] [] h Q) : wp SC 583 d s 5 [(0, .ref a0), (1, .int x1)] [.int xs0] h Q := by
  refine wp_run 5 (pc' := 12) (lv' := [(5, .int (i32 0)), (4, .int (i32 1)), (3, .int xs0), (0, .ref a0), (1, .int x1)]) (st' := []) rfl ?_
  exact wp_weak (re_sb_at rfl (re_sb_at rfl (re_sb_at rfl (re_sb_at rfl (re_sb_at rfl (re_sb_nil _)))))) K
theorem L583_12 {SC : List Value} {d s : Nat} {h : re_H} {Q : Nat → Value → re_H → Prop} {a0 : Nat} {x1 : Int32} {x3 : Int32} {x4 : Int32} {x5 : Int32}
    (K1 : ¬ x5 < ((i32 6) * x1) → wp SC 583 d s 69 [(4, .int x4)] [] h Q) (K2 : x5 < ((i32 6) * x1) → wp SC 583 d s 21 [(0, .ref a0), (1, .int x1), (3, .int x3), (4, .int x4), (5, .int x5)] [] h Q) : wp SC 583 d s 12 [(0, .ref a0), (1, .int x1), (3, .int x3), (4, .int x4), (5, .int x5)] [] h Q := by
  refine wp_run 1 (pc' := 14) (lv' := [(0, .ref a0), (1, .int x1), (3, .int x3), (4, .int x4), (5, .int x5)]) (st' := [.int x5]) rfl ?_
  refine wp_bi (x := (i32 6)) ⟨rfl, rfl⟩ (by decide) ?_
  refine wp_run 2 (pc' := 18) (lv' := [(0, .ref a0), (1, .int x1), (3, .int x3), (4, .int x4), (5, .int x5)]) (st' := [.int ((i32 6) * x1), .int x5]) rfl ?_
  exact wp_cmp ⟨rfl, rfl⟩ rfl (fun hc => wp_weak (re_sb_at rfl (re_sb_nil _)) (K1 (ic1_ge hc))) (fun hc => wp_weak (re_sb_at rfl (re_sb_at rfl (re_sb_at rfl (re_sb_at rfl (re_sb_at rfl (re_sb_nil _)))))) (K2 (ic0_ge hc)))
theorem L583_21 {SC : List Value} {d s : Nat} {h : re_H} {Q : Nat → Value → re_H → Prop} {a0 : Nat} {x1 : Int32} {x3 : Int32} {x4 : Int32} {x5 : Int32}
    (K1 : x4 = 0 → wp SC 583 d s 69 [(4, .int x4)] [] h Q) (K2 : ¬ x4 = 0 → wp SC 583 d s 26 [(0, .ref a0), (1, .int x1), (3, .int x3), (5, .int x5)] [] h Q) : wp SC 583 d s 21 [(0, .ref a0), (1, .int x1), (3, .int x3), (4, .int x4), (5, .int x5)] [] h Q := by
  refine wp_run 1 (pc' := 23) (lv' := [(0, .ref a0), (1, .int x1), (3, .int x3), (4, .int x4), (5, .int x5)]) (st' := [.int x4]) rfl ?_
  exact wp_if ⟨rfl, rfl⟩ rfl (fun hc => wp_weak (re_sb_at rfl (re_sb_nil _)) (K1 (ic1_eq hc))) (fun hc => wp_weak (re_sb_at rfl (re_sb_at rfl (re_sb_at rfl (re_sb_at rfl (re_sb_nil _))))) (K2 (ic0_eq hc)))
theorem L583_26 {SC : List Value} {d s : Nat} {h : re_H} {Q : Nat → Value → re_H → Prop} {a0 : Nat} {x1 : Int32} {x3 : Int32} {x5 : Int32}
    (K1 : ((x3 >>> ((x5 / (i32 6)) &&& 31)) &&& (i32 1)) = 0 → wp SC 583 d s 56 [(0, .ref a0), (1, .int x1), (3, .int x3), (5, .int x5)] [] h Q) (K2 : ¬ ((x3 >>> ((x5 / (i32 6)) &&& 31)) &&& (i32 1)) = 0 → wp SC 583 d s 38 [(0, .ref a0), (1, .int x1), (3, .int x3), (5, .int x5)] [] h Q) : wp SC 583 d s 26 [(0, .ref a0), (1, .int x1), (3, .int x3), (5, .int x5)] [] h Q := by
  refine wp_run 2 (pc' := 29) (lv' := [(0, .ref a0), (1, .int x1), (3, .int x3), (5, .int x5)]) (st' := [.int x5, .int x3]) rfl ?_
  refine wp_bi (x := (i32 6)) ⟨rfl, rfl⟩ (by decide) ?_
  refine wp_pure (pc' := 32) (lv' := [(0, .ref a0), (1, .int x1), (3, .int x3), (5, .int x5)]) (st' := [.int (x5 / (i32 6)), .int x3]) ⟨rfl, rfl⟩ (by simp only [re_pure, if_neg (show ¬ (i32 6) = 0 from by decide)]) ?_
  refine wp_run 3 (pc' := 35) (lv' := [(0, .ref a0), (1, .int x1), (3, .int x3), (5, .int x5)]) (st' := [.int ((x3 >>> ((x5 / (i32 6)) &&& 31)) &&& (i32 1))]) rfl ?_
  exact wp_if ⟨rfl, rfl⟩ rfl (fun hc => wp_weak (re_sb_at rfl (re_sb_at rfl (re_sb_at rfl (re_sb_at rfl (re_sb_nil _))))) (K1 (ic1_eq hc))) (fun hc => wp_weak (re_sb_at rfl (re_sb_at rfl (re_sb_at rfl (re_sb_at rfl (re_sb_nil _))))) (K2 (ic0_eq hc)))
theorem L583_38 {SC : List Value} {d s : Nat} {h : re_H} {Q : Nat → Value → re_H → Prop} {a0 : Nat} {x1 : Int32} {x3 : Int32} {x5 : Int32}
    {c : Nat} {w : List Value} (eg : re_hg h a0 = some (c, w)) (ec : c = 0) {s1 s2 : Nat} (hs : s1 + s2 ≤ s) (K : wp SC 33 d s1 0 [(0, .ref a0), (1, .int (x5 / (i32 6))), (2, .int (x5 - x5 / (i32 6) * (i32 6)))] [] h (wp_ret SC 583 (d + 1) s2 52 [(0, .ref a0), (1, .int x1), (3, .int x3), (5, .int x5)] [] Q)) : wp SC 583 (d + 1) s 38 [(0, .ref a0), (1, .int x1), (3, .int x3), (5, .int x5)] [] h Q := by
  refine wp_run 2 (pc' := 41) (lv' := [(0, .ref a0), (1, .int x1), (3, .int x3), (5, .int x5)]) (st' := [.int x5, .ref a0]) rfl ?_
  refine wp_bi (x := (i32 6)) ⟨rfl, rfl⟩ (by decide) ?_
  refine wp_pure (pc' := 44) (lv' := [(0, .ref a0), (1, .int x1), (3, .int x3), (5, .int x5)]) (st' := [.int (x5 / (i32 6)), .ref a0]) ⟨rfl, rfl⟩ (by simp only [re_pure, if_neg (show ¬ (i32 6) = 0 from by decide)]) ?_
  refine wp_run 1 (pc' := 46) (lv' := [(0, .ref a0), (1, .int x1), (3, .int x3), (5, .int x5)]) (st' := [.int x5, .int (x5 / (i32 6)), .ref a0]) rfl ?_
  refine wp_bi (x := (i32 6)) ⟨rfl, rfl⟩ (by decide) ?_
  refine wp_pure (pc' := 49) (lv' := [(0, .ref a0), (1, .int x1), (3, .int x3), (5, .int x5)]) (st' := [.int (x5 - x5 / (i32 6) * (i32 6)), .int (x5 / (i32 6)), .ref a0]) ⟨rfl, rfl⟩ (by simp only [re_pure, if_neg (show ¬ (i32 6) = 0 from by decide)]) ?_
  have eA : lv_args 0 (.ref a0 :: [.int (x5 - x5 / (i32 6) * (i32 6)), .int (x5 / (i32 6))].reverse) = [(0, .ref a0), (1, .int (x5 / (i32 6))), (2, .int (x5 - x5 / (i32 6) * (i32 6)))] := by simp [lv_args, vc_i, vc_l, vc_r, vc_n, vc_a]
  refine wp_callV (ar := [.int (x5 - x5 / (i32 6) * (i32 6)), .int (x5 / (i32 6))]) (rest := []) (s1 := s1) (s2 := s2) (d' := d) ⟨rfl, rfl⟩ rfl (Or.inl rfl)  (by simp [re_cat, vc_i, vc_l, vc_r, vc_n, vc_a]) (by rw [show re_cat (.ref a0 :: [.int (x5 - x5 / (i32 6) * (i32 6)), .int (x5 / (i32 6))].reverse) = 3 from by simp [re_cat, vc_i, vc_l, vc_r, vc_n, vc_a]]; decide) (by decide) rfl eg ec rfl hs ?_
  rw [eA]
  exact wp_mono K (fun k v h' z => wp_ret_weak (re_sb_at rfl (re_sb_at rfl (re_sb_at rfl (re_sb_at rfl (re_sb_nil _))))) z)
theorem L583_52 {SC : List Value} {d s : Nat} {h : re_H} {Q : Nat → Value → re_H → Prop} {a0 : Nat} {x1 : Int32} {x3 : Int32} {x5 : Int32} {xs0 : Int32}
    (K1 : ¬ xs0 < (i32 2) → wp SC 583 d s 60 [(0, .ref a0), (1, .int x1), (3, .int x3), (5, .int x5)] [] h Q) (K2 : xs0 < (i32 2) → wp SC 583 d s 56 [(0, .ref a0), (1, .int x1), (3, .int x3), (5, .int x5)] [] h Q) : wp SC 583 d s 52 [(0, .ref a0), (1, .int x1), (3, .int x3), (5, .int x5)] [.int xs0] h Q := by
  refine wp_run 1 (pc' := 53) (lv' := [(0, .ref a0), (1, .int x1), (3, .int x3), (5, .int x5)]) (st' := [.int (i32 2), .int xs0]) rfl ?_
  exact wp_cmp ⟨rfl, rfl⟩ rfl (fun hc => wp_weak (re_sb_at rfl (re_sb_at rfl (re_sb_at rfl (re_sb_at rfl (re_sb_nil _))))) (K1 (ic1_ge hc))) (fun hc => wp_weak (re_sb_at rfl (re_sb_at rfl (re_sb_at rfl (re_sb_at rfl (re_sb_nil _))))) (K2 (ic0_ge hc)))
theorem L583_56 {SC : List Value} {d s : Nat} {h : re_H} {Q : Nat → Value → re_H → Prop} {a0 : Nat} {x1 : Int32} {x3 : Int32} {x5 : Int32}
    (K : wp SC 583 d s 61 [(0, .ref a0), (1, .int x1), (3, .int x3), (5, .int x5)] [.int (i32 1)] h Q) : wp SC 583 d s 56 [(0, .ref a0), (1, .int x1), (3, .int x3), (5, .int x5)] [] h Q := by
  refine wp_run 2 (pc' := 61) (lv' := [(0, .ref a0), (1, .int x1), (3, .int x3), (5, .int x5)]) (st' := [.int (i32 1)]) rfl ?_
  exact wp_weak (re_sb_at rfl (re_sb_at rfl (re_sb_at rfl (re_sb_at rfl (re_sb_nil _))))) K
theorem L583_60 {SC : List Value} {d s : Nat} {h : re_H} {Q : Nat → Value → re_H → Prop} {a0 : Nat} {x1 : Int32} {x3 : Int32} {x5 : Int32}
    (K : wp SC 583 d s 61 [(0, .ref a0), (1, .int x1), (3, .int x3), (5, .int x5)] [.int (i32 0)] h Q) : wp SC 583 d s 60 [(0, .ref a0), (1, .int x1), (3, .int x3), (5, .int x5)] [] h Q := by
  refine wp_run 1 (pc' := 61) (lv' := [(0, .ref a0), (1, .int x1), (3, .int x3), (5, .int x5)]) (st' := [.int (i32 0)]) rfl ?_
  exact wp_weak (re_sb_at rfl (re_sb_at rfl (re_sb_at rfl (re_sb_at rfl (re_sb_nil _))))) K
theorem L583_61 {SC : List Value} {d s : Nat} {h : re_H} {Q : Nat → Value → re_H → Prop} {a0 : Nat} {x1 : Int32} {x3 : Int32} {x5 : Int32} {xs0 : Int32}
    (K : wp SC 583 d s 12 [(0, .ref a0), (1, .int x1), (3, .int x3), (4, .int xs0), (5, .int (x5 + (i32 1)))] [] h Q) : wp SC 583 d s 61 [(0, .ref a0), (1, .int x1), (3, .int x3), (5, .int x5)] [.int xs0] h Q := by
  refine wp_run 3 (pc' := 12) (lv' := [(5, .int (x5 + (i32 1))), (4, .int xs0), (0, .ref a0), (1, .int x1), (3, .int x3)]) (st' := []) rfl ?_
  exact wp_weak (re_sb_at rfl (re_sb_at rfl (re_sb_at rfl (re_sb_at rfl (re_sb_at rfl (re_sb_nil _)))))) K
theorem L583_69 {SC : List Value} {d s : Nat} {h : re_H} {Q : Nat → Value → re_H → Prop} {x4 : Int32}
    (hz : x4 = 0 ∨ x4 = 1) (K : Q 1 (.int x4) h) : wp SC 583 d s 69 [(4, .int x4)] [] h Q := by
  refine wp_run 1 (pc' := 71) (lv' := [(4, .int x4)]) (st' := [.int x4]) rfl ?_
  exact wp_retz ⟨rfl, rfl⟩ rfl hz K
