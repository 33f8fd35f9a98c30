/-! The law's blocks once more, with the script where it is. -/
set_option maxRecDepth 20000 in
theorem M588_0 {SC : List Value} {d s : Nat} {h : re_H} {Q : Nat → Value → re_H → Prop} {a0 : Nat}
    (K : wp SC 588 d s 3 [(0, .retAddr 2)] [.ref h.1] (re_hq h (0, [.null, .int 0, .null, .int 0, .null, .null, .null, .null, .int 0, .null, .int 0])) Q) : wp SC 588 d s 0 [(0, .retAddr 2)] [] h Q := by
  exact wp_new (vs := [.null, .int 0, .null, .int 0, .null, .null, .null, .null, .int 0, .null, .int 0]) ⟨rfl, rfl⟩ rfl (by decide) (by decide) (wp_weak (re_sb_at rfl (re_sb_nil _)) K)
set_option maxRecDepth 20000 in
theorem M588_3 {SC : List Value} {d s : Nat} {h : re_H} {Q : Nat → Value → re_H → Prop} {as0 : Nat}
    {c : Nat} {w : List Value} (eg : re_hg h as0 = some (c, w)) (ec : c = 0) (K : wp SC 0 d 0 0 [(0, .ref as0)] [] h (wp_ret SC 588 (d + 1) s 7 [(0, .retAddr 2)] [.ref as0] Q)) : wp SC 588 (d + 1) s 3 [(0, .retAddr 2)] [.ref as0] h Q := by
  refine wp_run 1 (pc' := 4) (lv' := [(0, .retAddr 2)]) (st' := [.ref as0, .ref as0]) rfl ?_
  have eA : lv_args 0 (.ref as0 :: [].reverse) = [(0, .ref as0)] := by simp [lv_args, vc_i, vc_l, vc_r, vc_n, vc_a]
  refine wp_callI (ar := []) (rest := [.ref as0]) (s1 := 0) (s2 := s) (d' := d) ⟨rfl, rfl⟩ rfl (Or.inl rfl)  (by simp [re_cat, vc_i, vc_l, vc_r, vc_n, vc_a]) (by rw [show re_cat (.ref as0 :: [].reverse) = 1 from by simp [re_cat, vc_i, vc_l, vc_r, vc_n, vc_a]]; decide) (by decide) rfl eg ec rfl (Nat.le_of_eq (Nat.zero_add s)) ?_
  rw [eA]
  exact wp_mono K (fun k v h' z => wp_ret_weak (re_sb_at rfl (re_sb_nil _)) z)
set_option maxRecDepth 20000 in
theorem M588_7 {SC : List Value} {d s : Nat} {h : re_H} {Q : Nat → Value → re_H → Prop} {as0 : Nat}
    (K : wp SC 588 d s 11 [(0, .retAddr 2), (1, .ref as0)] [.ref h.1] (re_hq h (0, [.null, .int 0, .null, .int 0, .null, .null, .null, .null, .int 0, .null, .int 0])) Q) : wp SC 588 d s 7 [(0, .retAddr 2)] [.ref as0] h Q := by
  refine wp_run 1 (pc' := 8) (lv' := [(1, .ref as0), (0, .retAddr 2)]) (st' := []) rfl ?_
  exact wp_new (vs := [.null, .int 0, .null, .int 0, .null, .null, .null, .null, .int 0, .null, .int 0]) ⟨rfl, rfl⟩ rfl (by decide) (by decide) (wp_weak (re_sb_at rfl (re_sb_at rfl (re_sb_nil _))) K)
set_option maxRecDepth 20000 in
theorem M588_11 {SC : List Value} {d s : Nat} {h : re_H} {Q : Nat → Value → re_H → Prop} {a1 : Nat} {as0 : Nat}
    {c : Nat} {w : List Value} (eg : re_hg h as0 = some (c, w)) (ec : c = 0) (K : wp SC 0 d 0 0 [(0, .ref as0)] [] h (wp_ret SC 588 (d + 1) s 15 [(0, .retAddr 2), (1, .ref a1)] [.ref as0] Q)) : wp SC 588 (d + 1) s 11 [(0, .retAddr 2), (1, .ref a1)] [.ref as0] h Q := by
  refine wp_run 1 (pc' := 12) (lv' := [(0, .retAddr 2), (1, .ref a1)]) (st' := [.ref as0, .ref as0]) rfl ?_
  have eA : lv_args 0 (.ref as0 :: [].reverse) = [(0, .ref as0)] := by simp [lv_args, vc_i, vc_l, vc_r, vc_n, vc_a]
  refine wp_callI (ar := []) (rest := [.ref as0]) (s1 := 0) (s2 := s) (d' := d) ⟨rfl, rfl⟩ rfl (Or.inl rfl)  (by simp [re_cat, vc_i, vc_l, vc_r, vc_n, vc_a]) (by rw [show re_cat (.ref as0 :: [].reverse) = 1 from by simp [re_cat, vc_i, vc_l, vc_r, vc_n, vc_a]]; decide) (by decide) rfl eg ec rfl (Nat.le_of_eq (Nat.zero_add s)) ?_
  rw [eA]
  exact wp_mono K (fun k v h' z => wp_ret_weak (re_sb_at rfl (re_sb_at rfl (re_sb_nil _))) z)
set_option maxRecDepth 20000 in
theorem M588_15 {SC : List Value} {d s : Nat} {h : re_H} {Q : Nat → Value → re_H → Prop} {a1 : Nat} {as0 : Nat}
    {s' i : Nat} (hx : (i32 5) = i32 i) (hn : i * 8 ≤ 536870912) (hs : i + 2 * s' ≤ 11 + 2 * s) (hs' : s' ≤ s) (K : wp SC 588 d s' 19 [(0, .retAddr 2), (1, .ref a1), (2, .ref as0)] [.ref h.1] (re_hq h (100, List.replicate i (.int 0))) Q) : wp SC 588 d s 15 [(0, .retAddr 2), (1, .ref a1)] [.ref as0] h Q := by
  refine wp_run 2 (pc' := 17) (lv' := [(2, .ref as0), (0, .retAddr 2), (1, .ref a1)]) (st' := [.int (i32 5)]) rfl ?_
  exact wp_na ⟨rfl, rfl⟩ hx hn (Or.inl ⟨rfl, rfl, rfl⟩) hs hs' (wp_weak (re_sb_at rfl (re_sb_at rfl (re_sb_at rfl (re_sb_nil _)))) K)
set_option maxRecDepth 20000 in
theorem M588_19 {SC : List Value} {d s : Nat} {h : re_H} {Q : Nat → Value → re_H → Prop} {a1 : Nat} {a2 : Nat} {as0 : Nat}
    {s1 s2 : Nat} (hs : s1 + s2 ≤ s) (K : wp SC 587 d s1 0 [(0, .ref a1), (1, .int (i32 1))] [] h (wp_ret SC 588 (d + 1) s2 25 [(0, .retAddr 2), (1, .ref a1), (2, .ref a2), (3, .ref as0)] [] Q)) : wp SC 588 (d + 1) s 19 [(0, .retAddr 2), (1, .ref a1), (2, .ref a2)] [.ref as0] h Q := by
  refine wp_run 3 (pc' := 22) (lv' := [(3, .ref as0), (0, .retAddr 2), (1, .ref a1), (2, .ref a2)]) (st' := [.int (i32 1), .ref a1]) rfl ?_
  have eA : lv_args 0 ([.int (i32 1), .ref a1].reverse) = [(0, .ref a1), (1, .int (i32 1))] := by simp [lv_args, vc_i, vc_l, vc_r, vc_n, vc_a]
  refine wp_callS (ar := [.int (i32 1), .ref a1]) (rest := []) (s1 := s1) (s2 := s2) (d' := d) ⟨rfl, rfl⟩ rfl (Or.inl rfl) rfl (by simp [re_cat, vc_i, vc_l, vc_r, vc_n, vc_a]) (by rw [show re_cat ([.int (i32 1), .ref a1].reverse) = 2 from by simp [re_cat, vc_i, vc_l, vc_r, vc_n, vc_a]]; decide) (by decide) rfl rfl hs ?_
  rw [eA]
  exact wp_mono K (fun k v h' z => wp_ret_weak (re_sb_at rfl (re_sb_at rfl (re_sb_at rfl (re_sb_at rfl (re_sb_nil _))))) z)
set_option maxRecDepth 20000 in
theorem M588_25 {SC : List Value} {d s : Nat} {h : re_H} {Q : Nat → Value → re_H → Prop} {a1 : Nat} {a2 : Nat} {a3 : Nat} {xs0 : Int32}
    (K : wp SC 588 d s 30 [(0, .retAddr 2), (1, .ref a1), (2, .ref a2), (3, .ref a3), (4, .int xs0), (5, .int (i32 0))] [] h Q) : wp SC 588 d s 25 [(0, .retAddr 2), (1, .ref a1), (2, .ref a2), (3, .ref a3)] [.int xs0] h Q := by
  refine wp_run 3 (pc' := 30) (lv' := [(5, .int (i32 0)), (4, .int xs0), (0, .retAddr 2), (1, .ref a1), (2, .ref a2), (3, .ref a3)]) (st' := []) rfl ?_
  exact wp_weak (re_sb_at rfl (re_sb_at rfl (re_sb_at rfl (re_sb_at rfl (re_sb_at rfl (re_sb_at rfl (re_sb_nil _))))))) K
set_option maxRecDepth 20000 in
theorem M588_30 {SC : List Value} {d s : Nat} {h : re_H} {Q : Nat → Value → re_H → Prop} {a1 : Nat} {a2 : Nat} {a3 : Nat} {x4 : Int32} {x5 : Int32}
    (K1 : ¬ x5 < (i32 3) → wp SC 588 d s 77 [(0, .retAddr 2), (1, .ref a1), (2, .ref a2), (3, .ref a3), (4, .int x4)] [] h Q) (K2 : x5 < (i32 3) → wp SC 588 d s 36 [(0, .retAddr 2), (1, .ref a1), (2, .ref a2), (3, .ref a3), (4, .int x4), (5, .int x5)] [] h Q) : wp SC 588 d s 30 [(0, .retAddr 2), (1, .ref a1), (2, .ref a2), (3, .ref a3), (4, .int x4), (5, .int x5)] [] h Q := by
  refine wp_run 2 (pc' := 33) (lv' := [(0, .retAddr 2), (1, .ref a1), (2, .ref a2), (3, .ref a3), (4, .int x4), (5, .int x5)]) (st' := [.int (i32 3), .int x5]) rfl ?_
  exact wp_cmp ⟨rfl, rfl⟩ rfl (fun hc => wp_weak (re_sb_at rfl (re_sb_at rfl (re_sb_at rfl (re_sb_at rfl (re_sb_at rfl (re_sb_nil _)))))) (K1 (ic1_ge hc))) (fun hc => wp_weak (re_sb_at rfl (re_sb_at rfl (re_sb_at rfl (re_sb_at rfl (re_sb_at rfl (re_sb_at rfl (re_sb_nil _))))))) (K2 (ic0_ge hc)))
set_option maxRecDepth 20000 in
theorem M588_36 {SC : List Value} {d s : Nat} {h : re_H} {Q : Nat → Value → re_H → Prop} {a1 : Nat} {a2 : Nat} {a3 : Nat} {x4 : Int32} {x5 : Int32}
    (K1 : x4 = 0 → wp SC 588 d s 77 [(0, .retAddr 2), (1, .ref a1), (2, .ref a2), (3, .ref a3), (4, .int x4)] [] h Q) (K2 : ¬ x4 = 0 → wp SC 588 d s 41 [(0, .retAddr 2), (1, .ref a1), (2, .ref a2), (3, .ref a3), (5, .int x5)] [] h Q) : wp SC 588 d s 36 [(0, .retAddr 2), (1, .ref a1), (2, .ref a2), (3, .ref a3), (4, .int x4), (5, .int x5)] [] h Q := by
  refine wp_run 1 (pc' := 38) (lv' := [(0, .retAddr 2), (1, .ref a1), (2, .ref a2), (3, .ref a3), (4, .int x4), (5, .int x5)]) (st' := [.int x4]) rfl ?_
  exact wp_if ⟨rfl, rfl⟩ rfl (fun hc => wp_weak (re_sb_at rfl (re_sb_at rfl (re_sb_at rfl (re_sb_at rfl (re_sb_at rfl (re_sb_nil _)))))) (K1 (ic1_eq hc))) (fun hc => wp_weak (re_sb_at rfl (re_sb_at rfl (re_sb_at rfl (re_sb_at rfl (re_sb_at rfl (re_sb_nil _)))))) (K2 (ic0_eq hc)))
set_option maxRecDepth 20000 in
theorem M588_41 {SC : List Value} {d s : Nat} {h : re_H} {Q : Nat → Value → re_H → Prop} {a1 : Nat} {a2 : Nat} {a3 : Nat} {x5 : Int32}
    (K : wp SC 581 d 0 0 [(0, .ref a1), (1, .ref a2), (2, .int (i32 9)), (3, .int (i32 0)), (4, .int (i32 0))] [] h (wp_ret SC 588 (d + 1) s 50 [(0, .retAddr 2), (1, .ref a1), (2, .ref a2), (3, .ref a3), (5, .int x5)] [] Q)) : wp SC 588 (d + 1) s 41 [(0, .retAddr 2), (1, .ref a1), (2, .ref a2), (3, .ref a3), (5, .int x5)] [] h Q := by
  refine wp_run 2 (pc' := 43) (lv' := [(0, .retAddr 2), (1, .ref a1), (2, .ref a2), (3, .ref a3), (5, .int x5)]) (st' := [.ref a2, .ref a1]) rfl ?_
  refine wp_bi (x := (i32 9)) ⟨rfl, rfl⟩ (by decide) ?_
  refine wp_run 2 (pc' := 47) (lv' := [(0, .retAddr 2), (1, .ref a1), (2, .ref a2), (3, .ref a3), (5, .int x5)]) (st' := [.int (i32 0), .int (i32 0), .int (i32 9), .ref a2, .ref a1]) rfl ?_
  have eA : lv_args 0 ([.int (i32 0), .int (i32 0), .int (i32 9), .ref a2, .ref a1].reverse) = [(0, .ref a1), (1, .ref a2), (2, .int (i32 9)), (3, .int (i32 0)), (4, .int (i32 0))] := by simp [lv_args, vc_i, vc_l, vc_r, vc_n, vc_a]
  refine wp_callS (ar := [.int (i32 0), .int (i32 0), .int (i32 9), .ref a2, .ref a1]) (rest := []) (s1 := 0) (s2 := s) (d' := d) ⟨rfl, rfl⟩ rfl (Or.inl rfl) rfl (by simp [re_cat, vc_i, vc_l, vc_r, vc_n, vc_a]) (by rw [show re_cat ([.int (i32 0), .int (i32 0), .int (i32 9), .ref a2, .ref a1].reverse) = 5 from by simp [re_cat, vc_i, vc_l, vc_r, vc_n, vc_a]]; decide) (by decide) rfl rfl (Nat.le_of_eq (Nat.zero_add s)) ?_
  rw [eA]
  exact wp_mono K (fun k v h' z => wp_ret_weak (re_sb_at rfl (re_sb_at rfl (re_sb_at rfl (re_sb_at rfl (re_sb_at rfl (re_sb_nil _)))))) z)
set_option maxRecDepth 20000 in
theorem M588_50 {SC : List Value} {d s : Nat} {h : re_H} {Q : Nat → Value → re_H → Prop} {a1 : Nat} {a2 : Nat} {a3 : Nat} {x5 : Int32} {ls0 : Int64}
    (K1 : ¬ ls0 = x5.toInt64 → wp SC 588 d s 61 [(0, .retAddr 2), (1, .ref a1), (2, .ref a2), (3, .ref a3), (5, .int x5)] [] h Q) (K2 : ls0 = x5.toInt64 → wp SC 588 d s 57 [(0, .retAddr 2), (1, .ref a1), (2, .ref a2), (3, .ref a3), (5, .int x5)] [] h Q) : wp SC 588 d s 50 [(0, .retAddr 2), (1, .ref a1), (2, .ref a2), (3, .ref a3), (5, .int x5)] [.long ls0] h Q := by
  refine wp_run 3 (pc' := 54) (lv' := [(0, .retAddr 2), (1, .ref a1), (2, .ref a2), (3, .ref a3), (5, .int x5)]) (st' := [.int (lg_cmp ls0 x5.toInt64)]) rfl ?_
  exact wp_if ⟨rfl, rfl⟩ rfl (fun hc => wp_weak (re_sb_at rfl (re_sb_at rfl (re_sb_at rfl (re_sb_at rfl (re_sb_at rfl (re_sb_nil _)))))) (K1 (lc1_ne hc))) (fun hc => wp_weak (re_sb_at rfl (re_sb_at rfl (re_sb_at rfl (re_sb_at rfl (re_sb_at rfl (re_sb_nil _)))))) (K2 (lc0_ne hc)))
set_option maxRecDepth 20000 in
theorem M588_57 {SC : List Value} {d s : Nat} {h : re_H} {Q : Nat → Value → re_H → Prop} {a1 : Nat} {a2 : Nat} {a3 : Nat} {x5 : Int32}
    (K : wp SC 588 d s 62 [(0, .retAddr 2), (1, .ref a1), (2, .ref a2), (3, .ref a3), (5, .int x5)] [.int (i32 1)] h Q) : wp SC 588 d s 57 [(0, .retAddr 2), (1, .ref a1), (2, .ref a2), (3, .ref a3), (5, .int x5)] [] h Q := by
  refine wp_run 2 (pc' := 62) (lv' := [(0, .retAddr 2), (1, .ref a1), (2, .ref a2), (3, .ref a3), (5, .int x5)]) (st' := [.int (i32 1)]) rfl ?_
  exact wp_weak (re_sb_at rfl (re_sb_at rfl (re_sb_at rfl (re_sb_at rfl (re_sb_at rfl (re_sb_nil _)))))) K
set_option maxRecDepth 20000 in
theorem M588_61 {SC : List Value} {d s : Nat} {h : re_H} {Q : Nat → Value → re_H → Prop} {a1 : Nat} {a2 : Nat} {a3 : Nat} {x5 : Int32}
    (K : wp SC 588 d s 62 [(0, .retAddr 2), (1, .ref a1), (2, .ref a2), (3, .ref a3), (5, .int x5)] [.int (i32 0)] h Q) : wp SC 588 d s 61 [(0, .retAddr 2), (1, .ref a1), (2, .ref a2), (3, .ref a3), (5, .int x5)] [] h Q := by
  refine wp_run 1 (pc' := 62) (lv' := [(0, .retAddr 2), (1, .ref a1), (2, .ref a2), (3, .ref a3), (5, .int x5)]) (st' := [.int (i32 0)]) rfl ?_
  exact wp_weak (re_sb_at rfl (re_sb_at rfl (re_sb_at rfl (re_sb_at rfl (re_sb_at rfl (re_sb_nil _)))))) K
set_option maxRecDepth 20000 in
theorem M588_62 {SC : List Value} {d s : Nat} {h : re_H} {Q : Nat → Value → re_H → Prop} {a1 : Nat} {a2 : Nat} {a3 : Nat} {x5 : Int32} {xs0 : Int32}
    {xe1 : Int32} (e2 : nb_ar h a3 100 (i32 1) (.int xe1)) {w : List Value} {i : Nat} (e : re_hg h a3 = some (100, w)) (hx : (i32 1) = i32 i) (hi : i < 2147483648) (hl : i < w.length) (K : wp SC 588 d s 71 [(0, .retAddr 2), (1, .ref a1), (2, .ref a2), (3, .ref a3), (4, .int xs0), (5, .int x5)] [] (re_hw h a3 (100, w.set i (.int (xe1 + (i32 1))))) Q) : wp SC 588 d s 62 [(0, .retAddr 2), (1, .ref a1), (2, .ref a2), (3, .ref a3), (5, .int x5)] [.int xs0] h Q := by
  refine wp_run 4 (pc' := 67) (lv' := [(4, .int xs0), (0, .retAddr 2), (1, .ref a1), (2, .ref a2), (3, .ref a3), (5, .int x5)]) (st' := [.int (i32 1), .ref a3, .int (i32 1), .ref a3]) rfl ?_
  obtain ⟨w2, i2, e2a, e2x, e2i, e2v⟩ := e2
  refine wp_ial ⟨rfl, rfl⟩ e2a rfl e2x e2i e2v ?_
  refine wp_run 2 (pc' := 70) (lv' := [(4, .int xs0), (0, .retAddr 2), (1, .ref a1), (2, .ref a2), (3, .ref a3), (5, .int x5)]) (st' := [.int (xe1 + (i32 1)), .int (i32 1), .ref a3]) rfl ?_
  exact wp_ias ⟨rfl, rfl⟩ e rfl hx hi hl (wp_weak (re_sb_at rfl (re_sb_at rfl (re_sb_at rfl (re_sb_at rfl (re_sb_at rfl (re_sb_at rfl (re_sb_nil _))))))) K)
set_option maxRecDepth 20000 in
theorem M588_71 {SC : List Value} {d s : Nat} {h : re_H} {Q : Nat → Value → re_H → Prop} {a1 : Nat} {a2 : Nat} {a3 : Nat} {x4 : Int32} {x5 : Int32}
    (K : wp SC 588 d s 30 [(0, .retAddr 2), (1, .ref a1), (2, .ref a2), (3, .ref a3), (4, .int x4), (5, .int (x5 + (i32 1)))] [] h Q) : wp SC 588 d s 71 [(0, .retAddr 2), (1, .ref a1), (2, .ref a2), (3, .ref a3), (4, .int x4), (5, .int x5)] [] h Q := by
  refine wp_run 2 (pc' := 30) (lv' := [(5, .int (x5 + (i32 1))), (0, .retAddr 2), (1, .ref a1), (2, .ref a2), (3, .ref a3), (4, .int x4)]) (st' := []) rfl ?_
  exact wp_weak (re_sb_at rfl (re_sb_at rfl (re_sb_at rfl (re_sb_at rfl (re_sb_at rfl (re_sb_at rfl (re_sb_nil _))))))) K
set_option maxRecDepth 20000 in
theorem M588_77 {SC : List Value} {d s : Nat} {h : re_H} {Q : Nat → Value → re_H → Prop} {a1 : Nat} {a2 : Nat} {a3 : Nat} {x4 : Int32}
    (K : wp SC 588 d s 80 [(0, .retAddr 2), (1, .ref a1), (2, .ref a2), (3, .ref a3), (4, .int x4), (5, .int (i32 0))] [] h Q) : wp SC 588 d s 77 [(0, .retAddr 2), (1, .ref a1), (2, .ref a2), (3, .ref a3), (4, .int x4)] [] h Q := by
  refine wp_run 2 (pc' := 80) (lv' := [(5, .int (i32 0)), (0, .retAddr 2), (1, .ref a1), (2, .ref a2), (3, .ref a3), (4, .int x4)]) (st' := []) rfl ?_
  exact wp_weak (re_sb_at rfl (re_sb_at rfl (re_sb_at rfl (re_sb_at rfl (re_sb_at rfl (re_sb_at rfl (re_sb_nil _))))))) K
set_option maxRecDepth 20000 in
theorem M588_80 {SC : List Value} {d s : Nat} {h : re_H} {Q : Nat → Value → re_H → Prop} {a1 : Nat} {a2 : Nat} {a3 : Nat} {x4 : Int32} {x5 : Int32}
    (K1 : ¬ x5 < (i32 80) → wp SC 588 d s 259 [(1, .ref a1), (2, .ref a2), (3, .ref a3), (4, .int x4)] [] h Q) (K2 : x5 < (i32 80) → wp SC 588 d s 87 [(0, .retAddr 2), (1, .ref a1), (2, .ref a2), (3, .ref a3), (4, .int x4), (5, .int x5)] [] h Q) : wp SC 588 d s 80 [(0, .retAddr 2), (1, .ref a1), (2, .ref a2), (3, .ref a3), (4, .int x4), (5, .int x5)] [] h Q := by
  refine wp_run 1 (pc' := 82) (lv' := [(0, .retAddr 2), (1, .ref a1), (2, .ref a2), (3, .ref a3), (4, .int x4), (5, .int x5)]) (st' := [.int x5]) rfl ?_
  refine wp_bi (x := (i32 80)) ⟨rfl, rfl⟩ (by decide) ?_
  exact wp_cmp ⟨rfl, rfl⟩ rfl (fun hc => wp_weak (re_sb_at rfl (re_sb_at rfl (re_sb_at rfl (re_sb_at rfl (re_sb_nil _))))) (K1 (ic1_ge hc))) (fun hc => wp_weak (re_sb_at rfl (re_sb_at rfl (re_sb_at rfl (re_sb_at rfl (re_sb_at rfl (re_sb_at rfl (re_sb_nil _))))))) (K2 (ic0_ge hc)))
set_option maxRecDepth 20000 in
theorem M588_87 {SC : List Value} {d s : Nat} {h : re_H} {Q : Nat → Value → re_H → Prop} {a1 : Nat} {a2 : Nat} {a3 : Nat} {x4 : Int32} {x5 : Int32}
    (K1 : x4 = 0 → wp SC 588 d s 259 [(1, .ref a1), (2, .ref a2), (3, .ref a3), (4, .int x4)] [] h Q) (K2 : ¬ x4 = 0 → wp SC 588 d s 92 [(0, .retAddr 2), (1, .ref a1), (2, .ref a2), (3, .ref a3), (5, .int x5)] [] h Q) : wp SC 588 d s 87 [(0, .retAddr 2), (1, .ref a1), (2, .ref a2), (3, .ref a3), (4, .int x4), (5, .int x5)] [] h Q := by
  refine wp_run 1 (pc' := 89) (lv' := [(0, .retAddr 2), (1, .ref a1), (2, .ref a2), (3, .ref a3), (4, .int x4), (5, .int x5)]) (st' := [.int x4]) rfl ?_
  exact wp_if ⟨rfl, rfl⟩ rfl (fun hc => wp_weak (re_sb_at rfl (re_sb_at rfl (re_sb_at rfl (re_sb_at rfl (re_sb_nil _))))) (K1 (ic1_eq hc))) (fun hc => wp_weak (re_sb_at rfl (re_sb_at rfl (re_sb_at rfl (re_sb_at rfl (re_sb_at rfl (re_sb_nil _)))))) (K2 (ic0_eq hc)))
set_option maxRecDepth 20000 in
theorem M588_92 {SC : List Value} {d s : Nat} {h : re_H} {Q : Nat → Value → re_H → Prop} {a1 : Nat} {a2 : Nat} {a3 : Nat} {x5 : Int32}
    (K : wp SC 576 d 0 0 [(0, .retAddr 2), (1, .int ((i32 2) * x5))] [] h (wp_ret SC 588 (d + 1) s 100 [(0, .retAddr 2), (1, .ref a1), (2, .ref a2), (3, .ref a3), (5, .int x5)] [] Q)) : wp SC 588 (d + 1) s 92 [(0, .retAddr 2), (1, .ref a1), (2, .ref a2), (3, .ref a3), (5, .int x5)] [] h Q := by
  refine wp_run 4 (pc' := 97) (lv' := [(0, .retAddr 2), (1, .ref a1), (2, .ref a2), (3, .ref a3), (5, .int x5)]) (st' := [.int ((i32 2) * x5), .retAddr 2]) rfl ?_
  have eA : lv_args 0 ([.int ((i32 2) * x5), .retAddr 2].reverse) = [(0, .retAddr 2), (1, .int ((i32 2) * x5))] := by simp [lv_args, vc_i, vc_l, vc_r, vc_n, vc_a]
  refine wp_callS (ar := [.int ((i32 2) * x5), .retAddr 2]) (rest := []) (s1 := 0) (s2 := s) (d' := d) ⟨rfl, rfl⟩ rfl (Or.inl rfl) rfl (by simp [re_cat, vc_i, vc_l, vc_r, vc_n, vc_a]) (by rw [show re_cat ([.int ((i32 2) * x5), .retAddr 2].reverse) = 2 from by simp [re_cat, vc_i, vc_l, vc_r, vc_n, vc_a]]; decide) (by decide) rfl rfl (Nat.le_of_eq (Nat.zero_add s)) ?_
  rw [eA]
  exact wp_mono K (fun k v h' z => wp_ret_weak (re_sb_at rfl (re_sb_at rfl (re_sb_at rfl (re_sb_at rfl (re_sb_at rfl (re_sb_nil _)))))) z)
set_option maxRecDepth 20000 in
theorem M588_100 {SC : List Value} {d s : Nat} {h : re_H} {Q : Nat → Value → re_H → Prop} {a1 : Nat} {a2 : Nat} {a3 : Nat} {x5 : Int32} {xs0 : Int32}
    (K : wp SC 576 d 0 0 [(0, .retAddr 2), (1, .int (((i32 2) * x5) + (i32 1)))] [] h (wp_ret SC 588 (d + 1) s 112 [(0, .retAddr 2), (1, .ref a1), (2, .ref a2), (3, .ref a3), (5, .int x5), (6, .int xs0)] [] Q)) : wp SC 588 (d + 1) s 100 [(0, .retAddr 2), (1, .ref a1), (2, .ref a2), (3, .ref a3), (5, .int x5)] [.int xs0] h Q := by
  refine wp_run 7 (pc' := 109) (lv' := [(6, .int xs0), (0, .retAddr 2), (1, .ref a1), (2, .ref a2), (3, .ref a3), (5, .int x5)]) (st' := [.int (((i32 2) * x5) + (i32 1)), .retAddr 2]) rfl ?_
  have eA : lv_args 0 ([.int (((i32 2) * x5) + (i32 1)), .retAddr 2].reverse) = [(0, .retAddr 2), (1, .int (((i32 2) * x5) + (i32 1)))] := by simp [lv_args, vc_i, vc_l, vc_r, vc_n, vc_a]
  refine wp_callS (ar := [.int (((i32 2) * x5) + (i32 1)), .retAddr 2]) (rest := []) (s1 := 0) (s2 := s) (d' := d) ⟨rfl, rfl⟩ rfl (Or.inl rfl) rfl (by simp [re_cat, vc_i, vc_l, vc_r, vc_n, vc_a]) (by rw [show re_cat ([.int (((i32 2) * x5) + (i32 1)), .retAddr 2].reverse) = 2 from by simp [re_cat, vc_i, vc_l, vc_r, vc_n, vc_a]]; decide) (by decide) rfl rfl (Nat.le_of_eq (Nat.zero_add s)) ?_
  rw [eA]
  exact wp_mono K (fun k v h' z => wp_ret_weak (re_sb_at rfl (re_sb_at rfl (re_sb_at rfl (re_sb_at rfl (re_sb_at rfl (re_sb_at rfl (re_sb_nil _))))))) z)
set_option maxRecDepth 20000 in
theorem M588_112 {SC : List Value} {d s : Nat} {h : re_H} {Q : Nat → Value → re_H → Prop} {a1 : Nat} {a2 : Nat} {a3 : Nat} {x5 : Int32} {x6 : Int32} {xs0 : Int32}
    (K : wp SC 577 d 0 0 [(0, .int x6), (1, .int (i32 16))] [] h (wp_ret SC 588 (d + 1) s 121 [(0, .retAddr 2), (1, .ref a1), (2, .ref a2), (3, .ref a3), (5, .int x5), (6, .int x6), (7, .int xs0)] [] Q)) : wp SC 588 (d + 1) s 112 [(0, .retAddr 2), (1, .ref a1), (2, .ref a2), (3, .ref a3), (5, .int x5), (6, .int x6)] [.int xs0] h Q := by
  refine wp_run 2 (pc' := 116) (lv' := [(7, .int xs0), (0, .retAddr 2), (1, .ref a1), (2, .ref a2), (3, .ref a3), (5, .int x5), (6, .int x6)]) (st' := [.int x6]) rfl ?_
  refine wp_bi (x := (i32 16)) ⟨rfl, rfl⟩ (by decide) ?_
  have eA : lv_args 0 ([.int (i32 16), .int x6].reverse) = [(0, .int x6), (1, .int (i32 16))] := by simp [lv_args, vc_i, vc_l, vc_r, vc_n, vc_a]
  refine wp_callS (ar := [.int (i32 16), .int x6]) (rest := []) (s1 := 0) (s2 := s) (d' := d) ⟨rfl, rfl⟩ rfl (Or.inl rfl) rfl (by simp [re_cat, vc_i, vc_l, vc_r, vc_n, vc_a]) (by rw [show re_cat ([.int (i32 16), .int x6].reverse) = 2 from by simp [re_cat, vc_i, vc_l, vc_r, vc_n, vc_a]]; decide) (by decide) rfl rfl (Nat.le_of_eq (Nat.zero_add s)) ?_
  rw [eA]
  exact wp_mono K (fun k v h' z => wp_ret_weak (re_sb_at rfl (re_sb_at rfl (re_sb_at rfl (re_sb_at rfl (re_sb_at rfl (re_sb_at rfl (re_sb_at rfl (re_sb_nil _)))))))) z)
set_option maxRecDepth 20000 in
theorem M588_121 {SC : List Value} {d s : Nat} {h : re_H} {Q : Nat → Value → re_H → Prop} {a1 : Nat} {a2 : Nat} {a3 : Nat} {x5 : Int32} {x6 : Int32} {x7 : Int32} {xs0 : Int32}
    (K1 : ¬ xs0 < (i32 9) → wp SC 588 d s 143 [(0, .retAddr 2), (1, .ref a1), (2, .ref a2), (3, .ref a3), (5, .int x5), (6, .int x6), (7, .int x7), (8, .int xs0)] [] h Q) (K2 : xs0 < (i32 9) → wp SC 588 d s 130 [(0, .retAddr 2), (1, .ref a1), (2, .ref a2), (3, .ref a3), (5, .int x5), (7, .int x7)] [] h Q) : wp SC 588 d s 121 [(0, .retAddr 2), (1, .ref a1), (2, .ref a2), (3, .ref a3), (5, .int x5), (6, .int x6), (7, .int x7)] [.int xs0] h Q := by
  refine wp_run 2 (pc' := 125) (lv' := [(8, .int xs0), (0, .retAddr 2), (1, .ref a1), (2, .ref a2), (3, .ref a3), (5, .int x5), (6, .int x6), (7, .int x7)]) (st' := [.int xs0]) rfl ?_
  refine wp_bi (x := (i32 9)) ⟨rfl, rfl⟩ (by decide) ?_
  exact wp_cmp ⟨rfl, rfl⟩ rfl (fun hc => wp_weak (re_sb_at rfl (re_sb_at rfl (re_sb_at rfl (re_sb_at rfl (re_sb_at rfl (re_sb_at rfl (re_sb_at rfl (re_sb_at rfl (re_sb_nil _))))))))) (K1 (ic1_ge hc))) (fun hc => wp_weak (re_sb_at rfl (re_sb_at rfl (re_sb_at rfl (re_sb_at rfl (re_sb_at rfl (re_sb_at rfl (re_sb_nil _))))))) (K2 (ic0_ge hc)))
set_option maxRecDepth 20000 in
theorem M588_130 {SC : List Value} {d s : Nat} {h : re_H} {Q : Nat → Value → re_H → Prop} {a1 : Nat} {a2 : Nat} {a3 : Nat} {x5 : Int32} {x7 : Int32}
    (K : wp SC 584 d 0 0 [(0, .ref a1), (1, .ref a2), (2, .ref a3), (3, .int x7)] [] h (wp_ret SC 588 (d + 1) s 138 [(0, .retAddr 2), (1, .ref a1), (2, .ref a2), (3, .ref a3), (5, .int x5)] [] Q)) : wp SC 588 (d + 1) s 130 [(0, .retAddr 2), (1, .ref a1), (2, .ref a2), (3, .ref a3), (5, .int x5), (7, .int x7)] [] h Q := by
  refine wp_run 4 (pc' := 135) (lv' := [(0, .retAddr 2), (1, .ref a1), (2, .ref a2), (3, .ref a3), (5, .int x5), (7, .int x7)]) (st' := [.int x7, .ref a3, .ref a2, .ref a1]) rfl ?_
  have eA : lv_args 0 ([.int x7, .ref a3, .ref a2, .ref a1].reverse) = [(0, .ref a1), (1, .ref a2), (2, .ref a3), (3, .int x7)] := by simp [lv_args, vc_i, vc_l, vc_r, vc_n, vc_a]
  refine wp_callS (ar := [.int x7, .ref a3, .ref a2, .ref a1]) (rest := []) (s1 := 0) (s2 := s) (d' := d) ⟨rfl, rfl⟩ rfl (Or.inl rfl) rfl (by simp [re_cat, vc_i, vc_l, vc_r, vc_n, vc_a]) (by rw [show re_cat ([.int x7, .ref a3, .ref a2, .ref a1].reverse) = 4 from by simp [re_cat, vc_i, vc_l, vc_r, vc_n, vc_a]]; decide) (by decide) rfl rfl (Nat.le_of_eq (Nat.zero_add s)) ?_
  rw [eA]
  exact wp_mono K (fun k v h' z => wp_ret_weak (re_sb_at rfl (re_sb_at rfl (re_sb_at rfl (re_sb_at rfl (re_sb_at rfl (re_sb_nil _)))))) z)
set_option maxRecDepth 20000 in
theorem M588_138 {SC : List Value} {d s : Nat} {h : re_H} {Q : Nat → Value → re_H → Prop} {a1 : Nat} {a2 : Nat} {a3 : Nat} {x5 : Int32} {xs0 : Int32}
    (K : wp SC 588 d s 181 [(0, .retAddr 2), (1, .ref a1), (2, .ref a2), (3, .ref a3), (4, .int xs0), (5, .int x5)] [] h Q) : wp SC 588 d s 138 [(0, .retAddr 2), (1, .ref a1), (2, .ref a2), (3, .ref a3), (5, .int x5)] [.int xs0] h Q := by
  refine wp_run 2 (pc' := 181) (lv' := [(4, .int xs0), (0, .retAddr 2), (1, .ref a1), (2, .ref a2), (3, .ref a3), (5, .int x5)]) (st' := []) rfl ?_
  exact wp_weak (re_sb_at rfl (re_sb_at rfl (re_sb_at rfl (re_sb_at rfl (re_sb_at rfl (re_sb_at rfl (re_sb_nil _))))))) K
set_option maxRecDepth 20000 in
theorem M588_143 {SC : List Value} {d s : Nat} {h : re_H} {Q : Nat → Value → re_H → Prop} {a1 : Nat} {a2 : Nat} {a3 : Nat} {x5 : Int32} {x6 : Int32} {x7 : Int32} {x8 : Int32}
    (K1 : ¬ x8 < (i32 13) → wp SC 588 d s 167 [(0, .retAddr 2), (1, .ref a1), (2, .ref a2), (3, .ref a3), (5, .int x5), (6, .int x6), (7, .int x7)] [] h Q) (K2 : x8 < (i32 13) → wp SC 588 d s 150 [(0, .retAddr 2), (1, .ref a1), (2, .ref a2), (3, .ref a3), (5, .int x5), (6, .int x6), (7, .int x7)] [] h Q) : wp SC 588 d s 143 [(0, .retAddr 2), (1, .ref a1), (2, .ref a2), (3, .ref a3), (5, .int x5), (6, .int x6), (7, .int x7), (8, .int x8)] [] h Q := by
  refine wp_run 1 (pc' := 145) (lv' := [(0, .retAddr 2), (1, .ref a1), (2, .ref a2), (3, .ref a3), (5, .int x5), (6, .int x6), (7, .int x7), (8, .int x8)]) (st' := [.int x8]) rfl ?_
  refine wp_bi (x := (i32 13)) ⟨rfl, rfl⟩ (by decide) ?_
  exact wp_cmp ⟨rfl, rfl⟩ rfl (fun hc => wp_weak (re_sb_at rfl (re_sb_at rfl (re_sb_at rfl (re_sb_at rfl (re_sb_at rfl (re_sb_at rfl (re_sb_at rfl (re_sb_nil _)))))))) (K1 (ic1_ge hc))) (fun hc => wp_weak (re_sb_at rfl (re_sb_at rfl (re_sb_at rfl (re_sb_at rfl (re_sb_at rfl (re_sb_at rfl (re_sb_at rfl (re_sb_nil _)))))))) (K2 (ic0_ge hc)))
set_option maxRecDepth 20000 in
theorem M588_150 {SC : List Value} {d s : Nat} {h : re_H} {Q : Nat → Value → re_H → Prop} {a1 : Nat} {a2 : Nat} {a3 : Nat} {x5 : Int32} {x6 : Int32} {x7 : Int32}
    {s1 s2 : Nat} (hs : s1 + s2 ≤ s) (K : wp SC 585 d s1 0 [(0, .ref a1), (1, .ref a2), (2, .ref a3), (3, .int (x6 >>> ((i32 4) &&& 31))), (4, .int x7)] [] h (wp_ret SC 588 (d + 1) s2 162 [(0, .retAddr 2), (1, .ref a1), (2, .ref a2), (3, .ref a3), (5, .int x5)] [] Q)) : wp SC 588 (d + 1) s 150 [(0, .retAddr 2), (1, .ref a1), (2, .ref a2), (3, .ref a3), (5, .int x5), (6, .int x6), (7, .int x7)] [] h Q := by
  refine wp_run 7 (pc' := 159) (lv' := [(0, .retAddr 2), (1, .ref a1), (2, .ref a2), (3, .ref a3), (5, .int x5), (6, .int x6), (7, .int x7)]) (st' := [.int x7, .int (x6 >>> ((i32 4) &&& 31)), .ref a3, .ref a2, .ref a1]) rfl ?_
  have eA : lv_args 0 ([.int x7, .int (x6 >>> ((i32 4) &&& 31)), .ref a3, .ref a2, .ref a1].reverse) = [(0, .ref a1), (1, .ref a2), (2, .ref a3), (3, .int (x6 >>> ((i32 4) &&& 31))), (4, .int x7)] := by simp [lv_args, vc_i, vc_l, vc_r, vc_n, vc_a]
  refine wp_callS (ar := [.int x7, .int (x6 >>> ((i32 4) &&& 31)), .ref a3, .ref a2, .ref a1]) (rest := []) (s1 := s1) (s2 := s2) (d' := d) ⟨rfl, rfl⟩ rfl (Or.inl rfl) rfl (by simp [re_cat, vc_i, vc_l, vc_r, vc_n, vc_a]) (by rw [show re_cat ([.int x7, .int (x6 >>> ((i32 4) &&& 31)), .ref a3, .ref a2, .ref a1].reverse) = 5 from by simp [re_cat, vc_i, vc_l, vc_r, vc_n, vc_a]]; decide) (by decide) rfl rfl hs ?_
  rw [eA]
  exact wp_mono K (fun k v h' z => wp_ret_weak (re_sb_at rfl (re_sb_at rfl (re_sb_at rfl (re_sb_at rfl (re_sb_at rfl (re_sb_nil _)))))) z)
set_option maxRecDepth 20000 in
theorem M588_162 {SC : List Value} {d s : Nat} {h : re_H} {Q : Nat → Value → re_H → Prop} {a1 : Nat} {a2 : Nat} {a3 : Nat} {x5 : Int32} {xs0 : Int32}
    (K : wp SC 588 d s 181 [(0, .retAddr 2), (1, .ref a1), (2, .ref a2), (3, .ref a3), (4, .int xs0), (5, .int x5)] [] h Q) : wp SC 588 d s 162 [(0, .retAddr 2), (1, .ref a1), (2, .ref a2), (3, .ref a3), (5, .int x5)] [.int xs0] h Q := by
  refine wp_run 2 (pc' := 181) (lv' := [(4, .int xs0), (0, .retAddr 2), (1, .ref a1), (2, .ref a2), (3, .ref a3), (5, .int x5)]) (st' := []) rfl ?_
  exact wp_weak (re_sb_at rfl (re_sb_at rfl (re_sb_at rfl (re_sb_at rfl (re_sb_at rfl (re_sb_at rfl (re_sb_nil _))))))) K
set_option maxRecDepth 20000 in
theorem M588_167 {SC : List Value} {d s : Nat} {h : re_H} {Q : Nat → Value → re_H → Prop} {a1 : Nat} {a2 : Nat} {a3 : Nat} {x5 : Int32} {x6 : Int32} {x7 : Int32}
    {s1 s2 : Nat} (hs : s1 + s2 ≤ s) (K : wp SC 586 d s1 0 [(0, .ref a1), (1, .ref a2), (2, .ref a3), (3, .int (x6 >>> ((i32 4) &&& 31))), (4, .int x7)] [] h (wp_ret SC 588 (d + 1) s2 179 [(0, .retAddr 2), (1, .ref a1), (2, .ref a2), (3, .ref a3), (5, .int x5)] [] Q)) : wp SC 588 (d + 1) s 167 [(0, .retAddr 2), (1, .ref a1), (2, .ref a2), (3, .ref a3), (5, .int x5), (6, .int x6), (7, .int x7)] [] h Q := by
  refine wp_run 7 (pc' := 176) (lv' := [(0, .retAddr 2), (1, .ref a1), (2, .ref a2), (3, .ref a3), (5, .int x5), (6, .int x6), (7, .int x7)]) (st' := [.int x7, .int (x6 >>> ((i32 4) &&& 31)), .ref a3, .ref a2, .ref a1]) rfl ?_
  have eA : lv_args 0 ([.int x7, .int (x6 >>> ((i32 4) &&& 31)), .ref a3, .ref a2, .ref a1].reverse) = [(0, .ref a1), (1, .ref a2), (2, .ref a3), (3, .int (x6 >>> ((i32 4) &&& 31))), (4, .int x7)] := by simp [lv_args, vc_i, vc_l, vc_r, vc_n, vc_a]
  refine wp_callS (ar := [.int x7, .int (x6 >>> ((i32 4) &&& 31)), .ref a3, .ref a2, .ref a1]) (rest := []) (s1 := s1) (s2 := s2) (d' := d) ⟨rfl, rfl⟩ rfl (Or.inl rfl) rfl (by simp [re_cat, vc_i, vc_l, vc_r, vc_n, vc_a]) (by rw [show re_cat ([.int x7, .int (x6 >>> ((i32 4) &&& 31)), .ref a3, .ref a2, .ref a1].reverse) = 5 from by simp [re_cat, vc_i, vc_l, vc_r, vc_n, vc_a]]; decide) (by decide) rfl rfl hs ?_
  rw [eA]
  exact wp_mono K (fun k v h' z => wp_ret_weak (re_sb_at rfl (re_sb_at rfl (re_sb_at rfl (re_sb_at rfl (re_sb_at rfl (re_sb_nil _)))))) z)
set_option maxRecDepth 20000 in
theorem M588_179 {SC : List Value} {d s : Nat} {h : re_H} {Q : Nat → Value → re_H → Prop} {a1 : Nat} {a2 : Nat} {a3 : Nat} {x5 : Int32} {xs0 : Int32}
    (K : wp SC 588 d s 181 [(0, .retAddr 2), (1, .ref a1), (2, .ref a2), (3, .ref a3), (4, .int xs0), (5, .int x5)] [] h Q) : wp SC 588 d s 179 [(0, .retAddr 2), (1, .ref a1), (2, .ref a2), (3, .ref a3), (5, .int x5)] [.int xs0] h Q := by
  refine wp_run 1 (pc' := 181) (lv' := [(4, .int xs0), (0, .retAddr 2), (1, .ref a1), (2, .ref a2), (3, .ref a3), (5, .int x5)]) (st' := []) rfl ?_
  exact wp_weak (re_sb_at rfl (re_sb_at rfl (re_sb_at rfl (re_sb_at rfl (re_sb_at rfl (re_sb_at rfl (re_sb_nil _))))))) K
set_option maxRecDepth 20000 in
theorem M588_181 {SC : List Value} {d s : Nat} {h : re_H} {Q : Nat → Value → re_H → Prop} {a1 : Nat} {a2 : Nat} {a3 : Nat} {x4 : Int32} {x5 : Int32}
    (K1 : x4 = 0 → wp SC 588 d s 250 [(0, .retAddr 2), (1, .ref a1), (2, .ref a2), (3, .ref a3), (5, .int x5)] [] h Q) (K2 : ¬ x4 = 0 → wp SC 588 d s 186 [(0, .retAddr 2), (1, .ref a1), (2, .ref a2), (3, .ref a3), (5, .int x5)] [] h Q) : wp SC 588 d s 181 [(0, .retAddr 2), (1, .ref a1), (2, .ref a2), (3, .ref a3), (4, .int x4), (5, .int x5)] [] h Q := by
  refine wp_run 1 (pc' := 183) (lv' := [(0, .retAddr 2), (1, .ref a1), (2, .ref a2), (3, .ref a3), (4, .int x4), (5, .int x5)]) (st' := [.int x4]) rfl ?_
  exact wp_if ⟨rfl, rfl⟩ rfl (fun hc => wp_weak (re_sb_at rfl (re_sb_at rfl (re_sb_at rfl (re_sb_at rfl (re_sb_at rfl (re_sb_nil _)))))) (K1 (ic1_eq hc))) (fun hc => wp_weak (re_sb_at rfl (re_sb_at rfl (re_sb_at rfl (re_sb_at rfl (re_sb_at rfl (re_sb_nil _)))))) (K2 (ic0_eq hc)))
set_option maxRecDepth 20000 in
theorem M588_186 {SC : List Value} {d s : Nat} {h : re_H} {Q : Nat → Value → re_H → Prop} {a1 : Nat} {a2 : Nat} {a3 : Nat} {x5 : Int32}
    (K1 : 0 < (x5 - x5 / (i32 6) * (i32 6)) → wp SC 588 d s 228 [(0, .retAddr 2), (1, .ref a1), (2, .ref a2), (3, .ref a3), (5, .int x5)] [] h Q) (K2 : ¬ 0 < (x5 - x5 / (i32 6) * (i32 6)) → wp SC 588 d s 194 [(0, .retAddr 2), (1, .ref a1), (2, .ref a2), (3, .ref a3), (5, .int x5)] [] h Q) : wp SC 588 d s 186 [(0, .retAddr 2), (1, .ref a1), (2, .ref a2), (3, .ref a3), (5, .int x5)] [] h Q := by
  refine wp_run 1 (pc' := 188) (lv' := [(0, .retAddr 2), (1, .ref a1), (2, .ref a2), (3, .ref a3), (5, .int x5)]) (st' := [.int x5]) rfl ?_
  refine wp_bi (x := (i32 6)) ⟨rfl, rfl⟩ (by decide) ?_
  refine wp_pure (pc' := 191) (lv' := [(0, .retAddr 2), (1, .ref a1), (2, .ref a2), (3, .ref a3), (5, .int x5)]) (st' := [.int (x5 - x5 / (i32 6) * (i32 6))]) ⟨rfl, rfl⟩ (by simp only [re_pure, if_neg (show ¬ (i32 6) = 0 from by decide)]) ?_
  exact wp_if ⟨rfl, rfl⟩ rfl (fun hc => wp_weak (re_sb_at rfl (re_sb_at rfl (re_sb_at rfl (re_sb_at rfl (re_sb_at rfl (re_sb_nil _)))))) (K1 (ic1_gt hc))) (fun hc => wp_weak (re_sb_at rfl (re_sb_at rfl (re_sb_at rfl (re_sb_at rfl (re_sb_at rfl (re_sb_nil _)))))) (K2 (ic0_gt hc)))
set_option maxRecDepth 20000 in
theorem M588_194 {SC : List Value} {d s : Nat} {h : re_H} {Q : Nat → Value → re_H → Prop} {a1 : Nat} {a2 : Nat} {a3 : Nat} {x5 : Int32}
    {xe1 : Int32} (e2 : nb_ar h a3 100 (i32 1) (.int xe1)) {s1 s2 : Nat} (hs : s1 + s2 ≤ s) (K : wp SC 578 d s1 0 [(0, .ref a1), (1, .int xe1)] [] h (wp_ret SC 588 (d + 1) s2 201 [(0, .retAddr 2), (1, .ref a1), (2, .ref a2), (3, .ref a3), (5, .int x5)] [] Q)) : wp SC 588 (d + 1) s 194 [(0, .retAddr 2), (1, .ref a1), (2, .ref a2), (3, .ref a3), (5, .int x5)] [] h Q := by
  refine wp_run 3 (pc' := 197) (lv' := [(0, .retAddr 2), (1, .ref a1), (2, .ref a2), (3, .ref a3), (5, .int x5)]) (st' := [.int (i32 1), .ref a3, .ref a1]) rfl ?_
  obtain ⟨w2, i2, e2a, e2x, e2i, e2v⟩ := e2
  refine wp_ial ⟨rfl, rfl⟩ e2a rfl e2x e2i e2v ?_
  have eA : lv_args 0 ([.int xe1, .ref a1].reverse) = [(0, .ref a1), (1, .int xe1)] := by simp [lv_args, vc_i, vc_l, vc_r, vc_n, vc_a]
  refine wp_callS (ar := [.int xe1, .ref a1]) (rest := []) (s1 := s1) (s2 := s2) (d' := d) ⟨rfl, rfl⟩ rfl (Or.inl rfl) rfl (by simp [re_cat, vc_i, vc_l, vc_r, vc_n, vc_a]) (by rw [show re_cat ([.int xe1, .ref a1].reverse) = 2 from by simp [re_cat, vc_i, vc_l, vc_r, vc_n, vc_a]]; decide) (by decide) rfl rfl hs ?_
  rw [eA]
  exact wp_mono K (fun k v h' z => wp_ret_weak (re_sb_at rfl (re_sb_at rfl (re_sb_at rfl (re_sb_at rfl (re_sb_at rfl (re_sb_nil _)))))) z)
set_option maxRecDepth 20000 in
theorem M588_201 {SC : List Value} {d s : Nat} {h : re_H} {Q : Nat → Value → re_H → Prop} {a1 : Nat} {a2 : Nat} {a3 : Nat} {x5 : Int32} {ls0 : Int64}
    {xe1 : Int32} (e2 : nb_ar h a3 100 (i32 1) (.int xe1)) {s1 s2 : Nat} (hs : s1 + s2 ≤ s) (K : wp SC 578 d s1 0 [(0, .ref a2), (1, .int xe1)] [] h (wp_ret SC 588 (d + 1) s2 208 [(0, .retAddr 2), (1, .ref a1), (2, .ref a2), (3, .ref a3), (5, .int x5)] [.long ls0] Q)) : wp SC 588 (d + 1) s 201 [(0, .retAddr 2), (1, .ref a1), (2, .ref a2), (3, .ref a3), (5, .int x5)] [.long ls0] h Q := by
  refine wp_run 3 (pc' := 204) (lv' := [(0, .retAddr 2), (1, .ref a1), (2, .ref a2), (3, .ref a3), (5, .int x5)]) (st' := [.int (i32 1), .ref a3, .ref a2, .long ls0]) rfl ?_
  obtain ⟨w2, i2, e2a, e2x, e2i, e2v⟩ := e2
  refine wp_ial ⟨rfl, rfl⟩ e2a rfl e2x e2i e2v ?_
  have eA : lv_args 0 ([.int xe1, .ref a2].reverse) = [(0, .ref a2), (1, .int xe1)] := by simp [lv_args, vc_i, vc_l, vc_r, vc_n, vc_a]
  refine wp_callS (ar := [.int xe1, .ref a2]) (rest := [.long ls0]) (s1 := s1) (s2 := s2) (d' := d) ⟨rfl, rfl⟩ rfl (Or.inl rfl) rfl (by simp [re_cat, vc_i, vc_l, vc_r, vc_n, vc_a]) (by rw [show re_cat ([.int xe1, .ref a2].reverse) = 2 from by simp [re_cat, vc_i, vc_l, vc_r, vc_n, vc_a]]; decide) (by decide) rfl rfl hs ?_
  rw [eA]
  exact wp_mono K (fun k v h' z => wp_ret_weak (re_sb_at rfl (re_sb_at rfl (re_sb_at rfl (re_sb_at rfl (re_sb_at rfl (re_sb_nil _)))))) z)
set_option maxRecDepth 20000 in
theorem M588_208 {SC : List Value} {d s : Nat} {h : re_H} {Q : Nat → Value → re_H → Prop} {a1 : Nat} {a2 : Nat} {a3 : Nat} {x5 : Int32} {ls0 : Int64} {ls1 : Int64}
    (K1 : ¬ ls1 = ls0 → wp SC 588 d s 250 [(0, .retAddr 2), (1, .ref a1), (2, .ref a2), (3, .ref a3), (5, .int x5)] [] h Q) (K2 : ls1 = ls0 → wp SC 588 d s 212 [(0, .retAddr 2), (1, .ref a1), (2, .ref a2), (3, .ref a3), (5, .int x5)] [] h Q) : wp SC 588 d s 208 [(0, .retAddr 2), (1, .ref a1), (2, .ref a2), (3, .ref a3), (5, .int x5)] [.long ls0, .long ls1] h Q := by
  refine wp_run 1 (pc' := 209) (lv' := [(0, .retAddr 2), (1, .ref a1), (2, .ref a2), (3, .ref a3), (5, .int x5)]) (st' := [.int (lg_cmp ls1 ls0)]) rfl ?_
  exact wp_if ⟨rfl, rfl⟩ rfl (fun hc => wp_weak (re_sb_at rfl (re_sb_at rfl (re_sb_at rfl (re_sb_at rfl (re_sb_at rfl (re_sb_nil _)))))) (K1 (lc1_ne hc))) (fun hc => wp_weak (re_sb_at rfl (re_sb_at rfl (re_sb_at rfl (re_sb_at rfl (re_sb_at rfl (re_sb_nil _)))))) (K2 (lc0_ne hc)))
set_option maxRecDepth 20000 in
theorem M588_212 {SC : List Value} {d s : Nat} {h : re_H} {Q : Nat → Value → re_H → Prop} {a1 : Nat} {a2 : Nat} {a3 : Nat} {x5 : Int32}
    {xe1 : Int32} (e2 : nb_ar h a3 100 (i32 1) (.int xe1)) {xe3 : Int32} (e4 : nb_ar h a3 100 (i32 2) (.int xe3)) {xe5 : Int32} (e6 : nb_ar h a3 100 (i32 4) (.int xe5)) {s1 s2 : Nat} (hs : s1 + s2 ≤ s) (K : wp SC 582 d s1 0 [(0, .ref a1), (1, .int xe1), (2, .int xe3), (3, .int xe5)] [] h (wp_ret SC 588 (d + 1) s2 225 [(0, .retAddr 2), (1, .ref a1), (2, .ref a2), (3, .ref a3), (5, .int x5)] [] Q)) : wp SC 588 (d + 1) s 212 [(0, .retAddr 2), (1, .ref a1), (2, .ref a2), (3, .ref a3), (5, .int x5)] [] h Q := by
  refine wp_run 3 (pc' := 215) (lv' := [(0, .retAddr 2), (1, .ref a1), (2, .ref a2), (3, .ref a3), (5, .int x5)]) (st' := [.int (i32 1), .ref a3, .ref a1]) rfl ?_
  obtain ⟨w2, i2, e2a, e2x, e2i, e2v⟩ := e2
  refine wp_ial ⟨rfl, rfl⟩ e2a rfl e2x e2i e2v ?_
  refine wp_run 2 (pc' := 218) (lv' := [(0, .retAddr 2), (1, .ref a1), (2, .ref a2), (3, .ref a3), (5, .int x5)]) (st' := [.int (i32 2), .ref a3, .int xe1, .ref a1]) rfl ?_
  obtain ⟨w4, i4, e4a, e4x, e4i, e4v⟩ := e4
  refine wp_ial ⟨rfl, rfl⟩ e4a rfl e4x e4i e4v ?_
  refine wp_run 2 (pc' := 221) (lv' := [(0, .retAddr 2), (1, .ref a1), (2, .ref a2), (3, .ref a3), (5, .int x5)]) (st' := [.int (i32 4), .ref a3, .int xe3, .int xe1, .ref a1]) rfl ?_
  obtain ⟨w6, i6, e6a, e6x, e6i, e6v⟩ := e6
  refine wp_ial ⟨rfl, rfl⟩ e6a rfl e6x e6i e6v ?_
  have eA : lv_args 0 ([.int xe5, .int xe3, .int xe1, .ref a1].reverse) = [(0, .ref a1), (1, .int xe1), (2, .int xe3), (3, .int xe5)] := by simp [lv_args, vc_i, vc_l, vc_r, vc_n, vc_a]
  refine wp_callS (ar := [.int xe5, .int xe3, .int xe1, .ref a1]) (rest := []) (s1 := s1) (s2 := s2) (d' := d) ⟨rfl, rfl⟩ rfl (Or.inl rfl) rfl (by simp [re_cat, vc_i, vc_l, vc_r, vc_n, vc_a]) (by rw [show re_cat ([.int xe5, .int xe3, .int xe1, .ref a1].reverse) = 4 from by simp [re_cat, vc_i, vc_l, vc_r, vc_n, vc_a]]; decide) (by decide) rfl rfl hs ?_
  rw [eA]
  exact wp_mono K (fun k v h' z => wp_ret_weak (re_sb_at rfl (re_sb_at rfl (re_sb_at rfl (re_sb_at rfl (re_sb_at rfl (re_sb_nil _)))))) z)
set_option maxRecDepth 20000 in
theorem M588_225 {SC : List Value} {d s : Nat} {h : re_H} {Q : Nat → Value → re_H → Prop} {a1 : Nat} {a2 : Nat} {a3 : Nat} {x5 : Int32} {xs0 : Int32}
    (K1 : xs0 = 0 → wp SC 588 d s 250 [(0, .retAddr 2), (1, .ref a1), (2, .ref a2), (3, .ref a3), (5, .int x5)] [] h Q) (K2 : ¬ xs0 = 0 → wp SC 588 d s 228 [(0, .retAddr 2), (1, .ref a1), (2, .ref a2), (3, .ref a3), (5, .int x5)] [] h Q) : wp SC 588 d s 225 [(0, .retAddr 2), (1, .ref a1), (2, .ref a2), (3, .ref a3), (5, .int x5)] [.int xs0] h Q := by
  exact wp_if ⟨rfl, rfl⟩ rfl (fun hc => wp_weak (re_sb_at rfl (re_sb_at rfl (re_sb_at rfl (re_sb_at rfl (re_sb_at rfl (re_sb_nil _)))))) (K1 (ic1_eq hc))) (fun hc => wp_weak (re_sb_at rfl (re_sb_at rfl (re_sb_at rfl (re_sb_at rfl (re_sb_at rfl (re_sb_nil _)))))) (K2 (ic0_eq hc)))
set_option maxRecDepth 20000 in
theorem M588_228 {SC : List Value} {d s : Nat} {h : re_H} {Q : Nat → Value → re_H → Prop} {a1 : Nat} {a2 : Nat} {a3 : Nat} {x5 : Int32}
    (K1 : 0 < (x5 - x5 / (i32 30) * (i32 30)) → wp SC 588 d s 246 [(0, .retAddr 2), (1, .ref a1), (2, .ref a2), (3, .ref a3), (5, .int x5)] [] h Q) (K2 : ¬ 0 < (x5 - x5 / (i32 30) * (i32 30)) → wp SC 588 d s 236 [(0, .retAddr 2), (1, .ref a1), (2, .ref a2), (3, .ref a3), (5, .int x5)] [] h Q) : wp SC 588 d s 228 [(0, .retAddr 2), (1, .ref a1), (2, .ref a2), (3, .ref a3), (5, .int x5)] [] h Q := by
  refine wp_run 1 (pc' := 230) (lv' := [(0, .retAddr 2), (1, .ref a1), (2, .ref a2), (3, .ref a3), (5, .int x5)]) (st' := [.int x5]) rfl ?_
  refine wp_bi (x := (i32 30)) ⟨rfl, rfl⟩ (by decide) ?_
  refine wp_pure (pc' := 233) (lv' := [(0, .retAddr 2), (1, .ref a1), (2, .ref a2), (3, .ref a3), (5, .int x5)]) (st' := [.int (x5 - x5 / (i32 30) * (i32 30))]) ⟨rfl, rfl⟩ (by simp only [re_pure, if_neg (show ¬ (i32 30) = 0 from by decide)]) ?_
  exact wp_if ⟨rfl, rfl⟩ rfl (fun hc => wp_weak (re_sb_at rfl (re_sb_at rfl (re_sb_at rfl (re_sb_at rfl (re_sb_at rfl (re_sb_nil _)))))) (K1 (ic1_gt hc))) (fun hc => wp_weak (re_sb_at rfl (re_sb_at rfl (re_sb_at rfl (re_sb_at rfl (re_sb_at rfl (re_sb_nil _)))))) (K2 (ic0_gt hc)))
set_option maxRecDepth 20000 in
theorem M588_236 {SC : List Value} {d s : Nat} {h : re_H} {Q : Nat → Value → re_H → Prop} {a1 : Nat} {a2 : Nat} {a3 : Nat} {x5 : Int32}
    {xe1 : Int32} (e2 : nb_ar h a3 100 (i32 1) (.int xe1)) {s1 s2 : Nat} (hs : s1 + s2 ≤ s) (K : wp SC 587 d s1 0 [(0, .ref a1), (1, .int xe1)] [] h (wp_ret SC 588 (d + 1) s2 243 [(0, .retAddr 2), (1, .ref a1), (2, .ref a2), (3, .ref a3), (5, .int x5)] [] Q)) : wp SC 588 (d + 1) s 236 [(0, .retAddr 2), (1, .ref a1), (2, .ref a2), (3, .ref a3), (5, .int x5)] [] h Q := by
  refine wp_run 3 (pc' := 239) (lv' := [(0, .retAddr 2), (1, .ref a1), (2, .ref a2), (3, .ref a3), (5, .int x5)]) (st' := [.int (i32 1), .ref a3, .ref a1]) rfl ?_
  obtain ⟨w2, i2, e2a, e2x, e2i, e2v⟩ := e2
  refine wp_ial ⟨rfl, rfl⟩ e2a rfl e2x e2i e2v ?_
  have eA : lv_args 0 ([.int xe1, .ref a1].reverse) = [(0, .ref a1), (1, .int xe1)] := by simp [lv_args, vc_i, vc_l, vc_r, vc_n, vc_a]
  refine wp_callS (ar := [.int xe1, .ref a1]) (rest := []) (s1 := s1) (s2 := s2) (d' := d) ⟨rfl, rfl⟩ rfl (Or.inl rfl) rfl (by simp [re_cat, vc_i, vc_l, vc_r, vc_n, vc_a]) (by rw [show re_cat ([.int xe1, .ref a1].reverse) = 2 from by simp [re_cat, vc_i, vc_l, vc_r, vc_n, vc_a]]; decide) (by decide) rfl rfl hs ?_
  rw [eA]
  exact wp_mono K (fun k v h' z => wp_ret_weak (re_sb_at rfl (re_sb_at rfl (re_sb_at rfl (re_sb_at rfl (re_sb_at rfl (re_sb_nil _)))))) z)
set_option maxRecDepth 20000 in
theorem M588_243 {SC : List Value} {d s : Nat} {h : re_H} {Q : Nat → Value → re_H → Prop} {a1 : Nat} {a2 : Nat} {a3 : Nat} {x5 : Int32} {xs0 : Int32}
    (K1 : xs0 = 0 → wp SC 588 d s 250 [(0, .retAddr 2), (1, .ref a1), (2, .ref a2), (3, .ref a3), (5, .int x5)] [] h Q) (K2 : ¬ xs0 = 0 → wp SC 588 d s 246 [(0, .retAddr 2), (1, .ref a1), (2, .ref a2), (3, .ref a3), (5, .int x5)] [] h Q) : wp SC 588 d s 243 [(0, .retAddr 2), (1, .ref a1), (2, .ref a2), (3, .ref a3), (5, .int x5)] [.int xs0] h Q := by
  exact wp_if ⟨rfl, rfl⟩ rfl (fun hc => wp_weak (re_sb_at rfl (re_sb_at rfl (re_sb_at rfl (re_sb_at rfl (re_sb_at rfl (re_sb_nil _)))))) (K1 (ic1_eq hc))) (fun hc => wp_weak (re_sb_at rfl (re_sb_at rfl (re_sb_at rfl (re_sb_at rfl (re_sb_at rfl (re_sb_nil _)))))) (K2 (ic0_eq hc)))
set_option maxRecDepth 20000 in
theorem M588_246 {SC : List Value} {d s : Nat} {h : re_H} {Q : Nat → Value → re_H → Prop} {a1 : Nat} {a2 : Nat} {a3 : Nat} {x5 : Int32}
    (K : wp SC 588 d s 251 [(0, .retAddr 2), (1, .ref a1), (2, .ref a2), (3, .ref a3), (5, .int x5)] [.int (i32 1)] h Q) : wp SC 588 d s 246 [(0, .retAddr 2), (1, .ref a1), (2, .ref a2), (3, .ref a3), (5, .int x5)] [] h Q := by
  refine wp_run 2 (pc' := 251) (lv' := [(0, .retAddr 2), (1, .ref a1), (2, .ref a2), (3, .ref a3), (5, .int x5)]) (st' := [.int (i32 1)]) rfl ?_
  exact wp_weak (re_sb_at rfl (re_sb_at rfl (re_sb_at rfl (re_sb_at rfl (re_sb_at rfl (re_sb_nil _)))))) K
set_option maxRecDepth 20000 in
theorem M588_250 {SC : List Value} {d s : Nat} {h : re_H} {Q : Nat → Value → re_H → Prop} {a1 : Nat} {a2 : Nat} {a3 : Nat} {x5 : Int32}
    (K : wp SC 588 d s 251 [(0, .retAddr 2), (1, .ref a1), (2, .ref a2), (3, .ref a3), (5, .int x5)] [.int (i32 0)] h Q) : wp SC 588 d s 250 [(0, .retAddr 2), (1, .ref a1), (2, .ref a2), (3, .ref a3), (5, .int x5)] [] h Q := by
  refine wp_run 1 (pc' := 251) (lv' := [(0, .retAddr 2), (1, .ref a1), (2, .ref a2), (3, .ref a3), (5, .int x5)]) (st' := [.int (i32 0)]) rfl ?_
  exact wp_weak (re_sb_at rfl (re_sb_at rfl (re_sb_at rfl (re_sb_at rfl (re_sb_at rfl (re_sb_nil _)))))) K
set_option maxRecDepth 20000 in
theorem M588_251 {SC : List Value} {d s : Nat} {h : re_H} {Q : Nat → Value → re_H → Prop} {a1 : Nat} {a2 : Nat} {a3 : Nat} {x5 : Int32} {xs0 : Int32}
    (K : wp SC 588 d s 80 [(0, .retAddr 2), (1, .ref a1), (2, .ref a2), (3, .ref a3), (4, .int xs0), (5, .int (x5 + (i32 1)))] [] h Q) : wp SC 588 d s 251 [(0, .retAddr 2), (1, .ref a1), (2, .ref a2), (3, .ref a3), (5, .int x5)] [.int xs0] h Q := by
  refine wp_run 3 (pc' := 80) (lv' := [(5, .int (x5 + (i32 1))), (4, .int xs0), (0, .retAddr 2), (1, .ref a1), (2, .ref a2), (3, .ref a3)]) (st' := []) rfl ?_
  exact wp_weak (re_sb_at rfl (re_sb_at rfl (re_sb_at rfl (re_sb_at rfl (re_sb_at rfl (re_sb_at rfl (re_sb_nil _))))))) K
set_option maxRecDepth 20000 in
theorem K588_0 {SC : List Value} {d s : Nat} {h : re_H} {Q : Nat → Value → re_H → Prop} {a0 : Nat}
    (K : wp SC 588 d s 3 [(0, .retAddr 2)] [.ref h.1] (re_hq h (0, [.null, .int 0, .null, .int 0, .null, .null, .null, .null, .int 0, .null, .int 0])) Q) : wp SC 588 d s 0 [(0, .retAddr 2)] [] h Q := by
  exact wp_new (vs := [.null, .int 0, .null, .int 0, .null, .null, .null, .null, .int 0, .null, .int 0]) ⟨rfl, rfl⟩ rfl (by decide) (by decide) (wp_weak (re_sb_at rfl (re_sb_nil _)) K)
set_option maxRecDepth 20000 in
theorem K588_3 {SC : List Value} {d s : Nat} {h : re_H} {Q : Nat → Value → re_H → Prop} {as0 : Nat}
    {c : Nat} {w : List Value} (eg : re_hg h as0 = some (c, w)) (ec : c = 0) (K : wp SC 0 d 0 0 [(0, .ref as0)] [] h (wp_ret SC 588 (d + 1) s 7 [(0, .retAddr 2)] [.ref as0] Q)) : wp SC 588 (d + 1) s 3 [(0, .retAddr 2)] [.ref as0] h Q := by
  refine wp_run 1 (pc' := 4) (lv' := [(0, .retAddr 2)]) (st' := [.ref as0, .ref as0]) rfl ?_
  have eA : lv_args 0 (.ref as0 :: [].reverse) = [(0, .ref as0)] := by simp [lv_args, vc_i, vc_l, vc_r, vc_n, vc_a]
  refine wp_callI (ar := []) (rest := [.ref as0]) (s1 := 0) (s2 := s) (d' := d) ⟨rfl, rfl⟩ rfl (Or.inl rfl)  (by simp [re_cat, vc_i, vc_l, vc_r, vc_n, vc_a]) (by rw [show re_cat (.ref as0 :: [].reverse) = 1 from by simp [re_cat, vc_i, vc_l, vc_r, vc_n, vc_a]]; decide) (by decide) rfl eg ec rfl (Nat.le_of_eq (Nat.zero_add s)) ?_
  rw [eA]
  exact wp_mono K (fun k v h' z => wp_ret_weak (re_sb_at rfl (re_sb_nil _)) z)
set_option maxRecDepth 20000 in
theorem K588_7 {SC : List Value} {d s : Nat} {h : re_H} {Q : Nat → Value → re_H → Prop} {as0 : Nat}
    (K : wp SC 588 d s 11 [(0, .retAddr 2), (1, .ref as0)] [.ref h.1] (re_hq h (0, [.null, .int 0, .null, .int 0, .null, .null, .null, .null, .int 0, .null, .int 0])) Q) : wp SC 588 d s 7 [(0, .retAddr 2)] [.ref as0] h Q := by
  refine wp_run 1 (pc' := 8) (lv' := [(1, .ref as0), (0, .retAddr 2)]) (st' := []) rfl ?_
  exact wp_new (vs := [.null, .int 0, .null, .int 0, .null, .null, .null, .null, .int 0, .null, .int 0]) ⟨rfl, rfl⟩ rfl (by decide) (by decide) (wp_weak (re_sb_at rfl (re_sb_at rfl (re_sb_nil _))) K)
set_option maxRecDepth 20000 in
theorem K588_11 {SC : List Value} {d s : Nat} {h : re_H} {Q : Nat → Value → re_H → Prop} {a1 : Nat} {as0 : Nat}
    {c : Nat} {w : List Value} (eg : re_hg h as0 = some (c, w)) (ec : c = 0) (K : wp SC 0 d 0 0 [(0, .ref as0)] [] h (wp_ret SC 588 (d + 1) s 15 [(0, .retAddr 2), (1, .ref a1)] [.ref as0] Q)) : wp SC 588 (d + 1) s 11 [(0, .retAddr 2), (1, .ref a1)] [.ref as0] h Q := by
  refine wp_run 1 (pc' := 12) (lv' := [(0, .retAddr 2), (1, .ref a1)]) (st' := [.ref as0, .ref as0]) rfl ?_
  have eA : lv_args 0 (.ref as0 :: [].reverse) = [(0, .ref as0)] := by simp [lv_args, vc_i, vc_l, vc_r, vc_n, vc_a]
  refine wp_callI (ar := []) (rest := [.ref as0]) (s1 := 0) (s2 := s) (d' := d) ⟨rfl, rfl⟩ rfl (Or.inl rfl)  (by simp [re_cat, vc_i, vc_l, vc_r, vc_n, vc_a]) (by rw [show re_cat (.ref as0 :: [].reverse) = 1 from by simp [re_cat, vc_i, vc_l, vc_r, vc_n, vc_a]]; decide) (by decide) rfl eg ec rfl (Nat.le_of_eq (Nat.zero_add s)) ?_
  rw [eA]
  exact wp_mono K (fun k v h' z => wp_ret_weak (re_sb_at rfl (re_sb_at rfl (re_sb_nil _))) z)
set_option maxRecDepth 20000 in
theorem K588_15 {SC : List Value} {d s : Nat} {h : re_H} {Q : Nat → Value → re_H → Prop} {a1 : Nat} {as0 : Nat}
    {s' i : Nat} (hx : (i32 5) = i32 i) (hn : i * 8 ≤ 536870912) (hs : i + 2 * s' ≤ 11 + 2 * s) (hs' : s' ≤ s) (K : wp SC 588 d s' 19 [(0, .retAddr 2), (1, .ref a1), (2, .ref as0)] [.ref h.1] (re_hq h (100, List.replicate i (.int 0))) Q) : wp SC 588 d s 15 [(0, .retAddr 2), (1, .ref a1)] [.ref as0] h Q := by
  refine wp_run 2 (pc' := 17) (lv' := [(2, .ref as0), (0, .retAddr 2), (1, .ref a1)]) (st' := [.int (i32 5)]) rfl ?_
  exact wp_na ⟨rfl, rfl⟩ hx hn (Or.inl ⟨rfl, rfl, rfl⟩) hs hs' (wp_weak (re_sb_at rfl (re_sb_at rfl (re_sb_at rfl (re_sb_nil _)))) K)
set_option maxRecDepth 20000 in
theorem K588_19 {SC : List Value} {d s : Nat} {h : re_H} {Q : Nat → Value → re_H → Prop} {a1 : Nat} {a2 : Nat} {as0 : Nat}
    {s1 s2 : Nat} (hs : s1 + s2 ≤ s) (K : wp SC 587 d s1 0 [(0, .ref a1), (1, .int (i32 1))] [] h (wp_ret SC 588 (d + 1) s2 25 [(0, .retAddr 2), (1, .ref a1), (2, .ref a2), (3, .ref as0)] [] Q)) : wp SC 588 (d + 1) s 19 [(0, .retAddr 2), (1, .ref a1), (2, .ref a2)] [.ref as0] h Q := by
  refine wp_run 3 (pc' := 22) (lv' := [(3, .ref as0), (0, .retAddr 2), (1, .ref a1), (2, .ref a2)]) (st' := [.int (i32 1), .ref a1]) rfl ?_
  have eA : lv_args 0 ([.int (i32 1), .ref a1].reverse) = [(0, .ref a1), (1, .int (i32 1))] := by simp [lv_args, vc_i, vc_l, vc_r, vc_n, vc_a]
  refine wp_callS (ar := [.int (i32 1), .ref a1]) (rest := []) (s1 := s1) (s2 := s2) (d' := d) ⟨rfl, rfl⟩ rfl (Or.inl rfl) rfl (by simp [re_cat, vc_i, vc_l, vc_r, vc_n, vc_a]) (by rw [show re_cat ([.int (i32 1), .ref a1].reverse) = 2 from by simp [re_cat, vc_i, vc_l, vc_r, vc_n, vc_a]]; decide) (by decide) rfl rfl hs ?_
  rw [eA]
  exact wp_mono K (fun k v h' z => wp_ret_weak (re_sb_at rfl (re_sb_at rfl (re_sb_at rfl (re_sb_at rfl (re_sb_nil _))))) z)
set_option maxRecDepth 20000 in
theorem K588_25 {SC : List Value} {d s : Nat} {h : re_H} {Q : Nat → Value → re_H → Prop} {a1 : Nat} {a2 : Nat} {a3 : Nat} {xs0 : Int32}
    (K : wp SC 588 d s 30 [(0, .retAddr 2), (1, .ref a1), (2, .ref a2), (3, .ref a3), (4, .int xs0), (5, .int (i32 0))] [] h Q) : wp SC 588 d s 25 [(0, .retAddr 2), (1, .ref a1), (2, .ref a2), (3, .ref a3)] [.int xs0] h Q := by
  refine wp_run 3 (pc' := 30) (lv' := [(5, .int (i32 0)), (4, .int xs0), (0, .retAddr 2), (1, .ref a1), (2, .ref a2), (3, .ref a3)]) (st' := []) rfl ?_
  exact wp_weak (re_sb_at rfl (re_sb_at rfl (re_sb_at rfl (re_sb_at rfl (re_sb_at rfl (re_sb_at rfl (re_sb_nil _))))))) K
set_option maxRecDepth 20000 in
theorem K588_30 {SC : List Value} {d s : Nat} {h : re_H} {Q : Nat → Value → re_H → Prop} {a1 : Nat} {a2 : Nat} {a3 : Nat} {x4 : Int32} {x5 : Int32}
    (K1 : ¬ x5 < (i32 3) → wp SC 588 d s 77 [(0, .retAddr 2), (1, .ref a1), (2, .ref a2), (3, .ref a3), (4, .int x4)] [] h Q) (K2 : x5 < (i32 3) → wp SC 588 d s 36 [(0, .retAddr 2), (1, .ref a1), (2, .ref a2), (3, .ref a3), (4, .int x4), (5, .int x5)] [] h Q) : wp SC 588 d s 30 [(0, .retAddr 2), (1, .ref a1), (2, .ref a2), (3, .ref a3), (4, .int x4), (5, .int x5)] [] h Q := by
  refine wp_run 2 (pc' := 33) (lv' := [(0, .retAddr 2), (1, .ref a1), (2, .ref a2), (3, .ref a3), (4, .int x4), (5, .int x5)]) (st' := [.int (i32 3), .int x5]) rfl ?_
  exact wp_cmp ⟨rfl, rfl⟩ rfl (fun hc => wp_weak (re_sb_at rfl (re_sb_at rfl (re_sb_at rfl (re_sb_at rfl (re_sb_at rfl (re_sb_nil _)))))) (K1 (ic1_ge hc))) (fun hc => wp_weak (re_sb_at rfl (re_sb_at rfl (re_sb_at rfl (re_sb_at rfl (re_sb_at rfl (re_sb_at rfl (re_sb_nil _))))))) (K2 (ic0_ge hc)))
set_option maxRecDepth 20000 in
theorem K588_36 {SC : List Value} {d s : Nat} {h : re_H} {Q : Nat → Value → re_H → Prop} {a1 : Nat} {a2 : Nat} {a3 : Nat} {x4 : Int32} {x5 : Int32}
    (K1 : x4 = 0 → wp SC 588 d s 77 [(0, .retAddr 2), (1, .ref a1), (2, .ref a2), (3, .ref a3), (4, .int x4)] [] h Q) (K2 : ¬ x4 = 0 → wp SC 588 d s 41 [(0, .retAddr 2), (1, .ref a1), (2, .ref a2), (3, .ref a3), (5, .int x5)] [] h Q) : wp SC 588 d s 36 [(0, .retAddr 2), (1, .ref a1), (2, .ref a2), (3, .ref a3), (4, .int x4), (5, .int x5)] [] h Q := by
  refine wp_run 1 (pc' := 38) (lv' := [(0, .retAddr 2), (1, .ref a1), (2, .ref a2), (3, .ref a3), (4, .int x4), (5, .int x5)]) (st' := [.int x4]) rfl ?_
  exact wp_if ⟨rfl, rfl⟩ rfl (fun hc => wp_weak (re_sb_at rfl (re_sb_at rfl (re_sb_at rfl (re_sb_at rfl (re_sb_at rfl (re_sb_nil _)))))) (K1 (ic1_eq hc))) (fun hc => wp_weak (re_sb_at rfl (re_sb_at rfl (re_sb_at rfl (re_sb_at rfl (re_sb_at rfl (re_sb_nil _)))))) (K2 (ic0_eq hc)))
set_option maxRecDepth 20000 in
theorem K588_41 {SC : List Value} {d s : Nat} {h : re_H} {Q : Nat → Value → re_H → Prop} {a1 : Nat} {a2 : Nat} {a3 : Nat} {x5 : Int32}
    {s1 s2 : Nat} (hs : s1 + s2 ≤ s) (K : wp SC 581 d s1 0 [(0, .ref a1), (1, .ref a2), (2, .int (i32 9)), (3, .int (i32 0)), (4, .int (i32 0))] [] h (wp_ret SC 588 (d + 1) s2 50 [(0, .retAddr 2), (1, .ref a1), (2, .ref a2), (3, .ref a3), (5, .int x5)] [] Q)) : wp SC 588 (d + 1) s 41 [(0, .retAddr 2), (1, .ref a1), (2, .ref a2), (3, .ref a3), (5, .int x5)] [] h Q := by
  refine wp_run 2 (pc' := 43) (lv' := [(0, .retAddr 2), (1, .ref a1), (2, .ref a2), (3, .ref a3), (5, .int x5)]) (st' := [.ref a2, .ref a1]) rfl ?_
  refine wp_bi (x := (i32 9)) ⟨rfl, rfl⟩ (by decide) ?_
  refine wp_run 2 (pc' := 47) (lv' := [(0, .retAddr 2), (1, .ref a1), (2, .ref a2), (3, .ref a3), (5, .int x5)]) (st' := [.int (i32 0), .int (i32 0), .int (i32 9), .ref a2, .ref a1]) rfl ?_
  have eA : lv_args 0 ([.int (i32 0), .int (i32 0), .int (i32 9), .ref a2, .ref a1].reverse) = [(0, .ref a1), (1, .ref a2), (2, .int (i32 9)), (3, .int (i32 0)), (4, .int (i32 0))] := by simp [lv_args, vc_i, vc_l, vc_r, vc_n, vc_a]
  refine wp_callS (ar := [.int (i32 0), .int (i32 0), .int (i32 9), .ref a2, .ref a1]) (rest := []) (s1 := s1) (s2 := s2) (d' := d) ⟨rfl, rfl⟩ rfl (Or.inl rfl) rfl (by simp [re_cat, vc_i, vc_l, vc_r, vc_n, vc_a]) (by rw [show re_cat ([.int (i32 0), .int (i32 0), .int (i32 9), .ref a2, .ref a1].reverse) = 5 from by simp [re_cat, vc_i, vc_l, vc_r, vc_n, vc_a]]; decide) (by decide) rfl rfl hs ?_
  rw [eA]
  exact wp_mono K (fun k v h' z => wp_ret_weak (re_sb_at rfl (re_sb_at rfl (re_sb_at rfl (re_sb_at rfl (re_sb_at rfl (re_sb_nil _)))))) z)
set_option maxRecDepth 20000 in
theorem K588_50 {SC : List Value} {d s : Nat} {h : re_H} {Q : Nat → Value → re_H → Prop} {a1 : Nat} {a2 : Nat} {a3 : Nat} {x5 : Int32} {ls0 : Int64}
    (K1 : ¬ ls0 = x5.toInt64 → wp SC 588 d s 61 [(0, .retAddr 2), (1, .ref a1), (2, .ref a2), (3, .ref a3), (5, .int x5)] [] h Q) (K2 : ls0 = x5.toInt64 → wp SC 588 d s 57 [(0, .retAddr 2), (1, .ref a1), (2, .ref a2), (3, .ref a3), (5, .int x5)] [] h Q) : wp SC 588 d s 50 [(0, .retAddr 2), (1, .ref a1), (2, .ref a2), (3, .ref a3), (5, .int x5)] [.long ls0] h Q := by
  refine wp_run 3 (pc' := 54) (lv' := [(0, .retAddr 2), (1, .ref a1), (2, .ref a2), (3, .ref a3), (5, .int x5)]) (st' := [.int (lg_cmp ls0 x5.toInt64)]) rfl ?_
  exact wp_if ⟨rfl, rfl⟩ rfl (fun hc => wp_weak (re_sb_at rfl (re_sb_at rfl (re_sb_at rfl (re_sb_at rfl (re_sb_at rfl (re_sb_nil _)))))) (K1 (lc1_ne hc))) (fun hc => wp_weak (re_sb_at rfl (re_sb_at rfl (re_sb_at rfl (re_sb_at rfl (re_sb_at rfl (re_sb_nil _)))))) (K2 (lc0_ne hc)))
set_option maxRecDepth 20000 in
theorem K588_57 {SC : List Value} {d s : Nat} {h : re_H} {Q : Nat → Value → re_H → Prop} {a1 : Nat} {a2 : Nat} {a3 : Nat} {x5 : Int32}
    (K : wp SC 588 d s 62 [(0, .retAddr 2), (1, .ref a1), (2, .ref a2), (3, .ref a3), (5, .int x5)] [.int (i32 1)] h Q) : wp SC 588 d s 57 [(0, .retAddr 2), (1, .ref a1), (2, .ref a2), (3, .ref a3), (5, .int x5)] [] h Q := by
  refine wp_run 2 (pc' := 62) (lv' := [(0, .retAddr 2), (1, .ref a1), (2, .ref a2), (3, .ref a3), (5, .int x5)]) (st' := [.int (i32 1)]) rfl ?_
  exact wp_weak (re_sb_at rfl (re_sb_at rfl (re_sb_at rfl (re_sb_at rfl (re_sb_at rfl (re_sb_nil _)))))) K
set_option maxRecDepth 20000 in
theorem K588_61 {SC : List Value} {d s : Nat} {h : re_H} {Q : Nat → Value → re_H → Prop} {a1 : Nat} {a2 : Nat} {a3 : Nat} {x5 : Int32}
    (K : wp SC 588 d s 62 [(0, .retAddr 2), (1, .ref a1), (2, .ref a2), (3, .ref a3), (5, .int x5)] [.int (i32 0)] h Q) : wp SC 588 d s 61 [(0, .retAddr 2), (1, .ref a1), (2, .ref a2), (3, .ref a3), (5, .int x5)] [] h Q := by
  refine wp_run 1 (pc' := 62) (lv' := [(0, .retAddr 2), (1, .ref a1), (2, .ref a2), (3, .ref a3), (5, .int x5)]) (st' := [.int (i32 0)]) rfl ?_
  exact wp_weak (re_sb_at rfl (re_sb_at rfl (re_sb_at rfl (re_sb_at rfl (re_sb_at rfl (re_sb_nil _)))))) K
set_option maxRecDepth 20000 in
theorem K588_62 {SC : List Value} {d s : Nat} {h : re_H} {Q : Nat → Value → re_H → Prop} {a1 : Nat} {a2 : Nat} {a3 : Nat} {x5 : Int32} {xs0 : Int32}
    {xe1 : Int32} (e2 : nb_ar h a3 100 (i32 1) (.int xe1)) {w : List Value} {i : Nat} (e : re_hg h a3 = some (100, w)) (hx : (i32 1) = i32 i) (hi : i < 2147483648) (hl : i < w.length) (K : wp SC 588 d s 71 [(0, .retAddr 2), (1, .ref a1), (2, .ref a2), (3, .ref a3), (4, .int xs0), (5, .int x5)] [] (re_hw h a3 (100, w.set i (.int (xe1 + (i32 1))))) Q) : wp SC 588 d s 62 [(0, .retAddr 2), (1, .ref a1), (2, .ref a2), (3, .ref a3), (5, .int x5)] [.int xs0] h Q := by
  refine wp_run 4 (pc' := 67) (lv' := [(4, .int xs0), (0, .retAddr 2), (1, .ref a1), (2, .ref a2), (3, .ref a3), (5, .int x5)]) (st' := [.int (i32 1), .ref a3, .int (i32 1), .ref a3]) rfl ?_
  obtain ⟨w2, i2, e2a, e2x, e2i, e2v⟩ := e2
  refine wp_ial ⟨rfl, rfl⟩ e2a rfl e2x e2i e2v ?_
  refine wp_run 2 (pc' := 70) (lv' := [(4, .int xs0), (0, .retAddr 2), (1, .ref a1), (2, .ref a2), (3, .ref a3), (5, .int x5)]) (st' := [.int (xe1 + (i32 1)), .int (i32 1), .ref a3]) rfl ?_
  exact wp_ias ⟨rfl, rfl⟩ e rfl hx hi hl (wp_weak (re_sb_at rfl (re_sb_at rfl (re_sb_at rfl (re_sb_at rfl (re_sb_at rfl (re_sb_at rfl (re_sb_nil _))))))) K)
set_option maxRecDepth 20000 in
theorem K588_71 {SC : List Value} {d s : Nat} {h : re_H} {Q : Nat → Value → re_H → Prop} {a1 : Nat} {a2 : Nat} {a3 : Nat} {x4 : Int32} {x5 : Int32}
    (K : wp SC 588 d s 30 [(0, .retAddr 2), (1, .ref a1), (2, .ref a2), (3, .ref a3), (4, .int x4), (5, .int (x5 + (i32 1)))] [] h Q) : wp SC 588 d s 71 [(0, .retAddr 2), (1, .ref a1), (2, .ref a2), (3, .ref a3), (4, .int x4), (5, .int x5)] [] h Q := by
  refine wp_run 2 (pc' := 30) (lv' := [(5, .int (x5 + (i32 1))), (0, .retAddr 2), (1, .ref a1), (2, .ref a2), (3, .ref a3), (4, .int x4)]) (st' := []) rfl ?_
  exact wp_weak (re_sb_at rfl (re_sb_at rfl (re_sb_at rfl (re_sb_at rfl (re_sb_at rfl (re_sb_at rfl (re_sb_nil _))))))) K
set_option maxRecDepth 20000 in
theorem K588_77 {SC : List Value} {d s : Nat} {h : re_H} {Q : Nat → Value → re_H → Prop} {a1 : Nat} {a2 : Nat} {a3 : Nat} {x4 : Int32}
    (K : wp SC 588 d s 80 [(0, .retAddr 2), (1, .ref a1), (2, .ref a2), (3, .ref a3), (4, .int x4), (5, .int (i32 0))] [] h Q) : wp SC 588 d s 77 [(0, .retAddr 2), (1, .ref a1), (2, .ref a2), (3, .ref a3), (4, .int x4)] [] h Q := by
  refine wp_run 2 (pc' := 80) (lv' := [(5, .int (i32 0)), (0, .retAddr 2), (1, .ref a1), (2, .ref a2), (3, .ref a3), (4, .int x4)]) (st' := []) rfl ?_
  exact wp_weak (re_sb_at rfl (re_sb_at rfl (re_sb_at rfl (re_sb_at rfl (re_sb_at rfl (re_sb_at rfl (re_sb_nil _))))))) K
set_option maxRecDepth 20000 in
theorem K588_80 {SC : List Value} {d s : Nat} {h : re_H} {Q : Nat → Value → re_H → Prop} {a1 : Nat} {a2 : Nat} {a3 : Nat} {x4 : Int32} {x5 : Int32}
    (K1 : ¬ x5 < (i32 80) → wp SC 588 d s 259 [(1, .ref a1), (2, .ref a2), (3, .ref a3), (4, .int x4)] [] h Q) (K2 : x5 < (i32 80) → wp SC 588 d s 87 [(0, .retAddr 2), (1, .ref a1), (2, .ref a2), (3, .ref a3), (4, .int x4), (5, .int x5)] [] h Q) : wp SC 588 d s 80 [(0, .retAddr 2), (1, .ref a1), (2, .ref a2), (3, .ref a3), (4, .int x4), (5, .int x5)] [] h Q := by
  refine wp_run 1 (pc' := 82) (lv' := [(0, .retAddr 2), (1, .ref a1), (2, .ref a2), (3, .ref a3), (4, .int x4), (5, .int x5)]) (st' := [.int x5]) rfl ?_
  refine wp_bi (x := (i32 80)) ⟨rfl, rfl⟩ (by decide) ?_
  exact wp_cmp ⟨rfl, rfl⟩ rfl (fun hc => wp_weak (re_sb_at rfl (re_sb_at rfl (re_sb_at rfl (re_sb_at rfl (re_sb_nil _))))) (K1 (ic1_ge hc))) (fun hc => wp_weak (re_sb_at rfl (re_sb_at rfl (re_sb_at rfl (re_sb_at rfl (re_sb_at rfl (re_sb_at rfl (re_sb_nil _))))))) (K2 (ic0_ge hc)))
set_option maxRecDepth 20000 in
theorem K588_87 {SC : List Value} {d s : Nat} {h : re_H} {Q : Nat → Value → re_H → Prop} {a1 : Nat} {a2 : Nat} {a3 : Nat} {x4 : Int32} {x5 : Int32}
    (K1 : x4 = 0 → wp SC 588 d s 259 [(1, .ref a1), (2, .ref a2), (3, .ref a3), (4, .int x4)] [] h Q) (K2 : ¬ x4 = 0 → wp SC 588 d s 92 [(0, .retAddr 2), (1, .ref a1), (2, .ref a2), (3, .ref a3), (5, .int x5)] [] h Q) : wp SC 588 d s 87 [(0, .retAddr 2), (1, .ref a1), (2, .ref a2), (3, .ref a3), (4, .int x4), (5, .int x5)] [] h Q := by
  refine wp_run 1 (pc' := 89) (lv' := [(0, .retAddr 2), (1, .ref a1), (2, .ref a2), (3, .ref a3), (4, .int x4), (5, .int x5)]) (st' := [.int x4]) rfl ?_
  exact wp_if ⟨rfl, rfl⟩ rfl (fun hc => wp_weak (re_sb_at rfl (re_sb_at rfl (re_sb_at rfl (re_sb_at rfl (re_sb_nil _))))) (K1 (ic1_eq hc))) (fun hc => wp_weak (re_sb_at rfl (re_sb_at rfl (re_sb_at rfl (re_sb_at rfl (re_sb_at rfl (re_sb_nil _)))))) (K2 (ic0_eq hc)))
set_option maxRecDepth 20000 in
theorem K588_92 {SC : List Value} {d s : Nat} {h : re_H} {Q : Nat → Value → re_H → Prop} {a1 : Nat} {a2 : Nat} {a3 : Nat} {x5 : Int32}
    (K : wp SC 576 d 0 0 [(0, .retAddr 2), (1, .int ((i32 2) * x5))] [] h (wp_ret SC 588 (d + 1) s 100 [(0, .retAddr 2), (1, .ref a1), (2, .ref a2), (3, .ref a3), (5, .int x5)] [] Q)) : wp SC 588 (d + 1) s 92 [(0, .retAddr 2), (1, .ref a1), (2, .ref a2), (3, .ref a3), (5, .int x5)] [] h Q := by
  refine wp_run 4 (pc' := 97) (lv' := [(0, .retAddr 2), (1, .ref a1), (2, .ref a2), (3, .ref a3), (5, .int x5)]) (st' := [.int ((i32 2) * x5), .retAddr 2]) rfl ?_
  have eA : lv_args 0 ([.int ((i32 2) * x5), .retAddr 2].reverse) = [(0, .retAddr 2), (1, .int ((i32 2) * x5))] := by simp [lv_args, vc_i, vc_l, vc_r, vc_n, vc_a]
  refine wp_callS (ar := [.int ((i32 2) * x5), .retAddr 2]) (rest := []) (s1 := 0) (s2 := s) (d' := d) ⟨rfl, rfl⟩ rfl (Or.inl rfl) rfl (by simp [re_cat, vc_i, vc_l, vc_r, vc_n, vc_a]) (by rw [show re_cat ([.int ((i32 2) * x5), .retAddr 2].reverse) = 2 from by simp [re_cat, vc_i, vc_l, vc_r, vc_n, vc_a]]; decide) (by decide) rfl rfl (Nat.le_of_eq (Nat.zero_add s)) ?_
  rw [eA]
  exact wp_mono K (fun k v h' z => wp_ret_weak (re_sb_at rfl (re_sb_at rfl (re_sb_at rfl (re_sb_at rfl (re_sb_at rfl (re_sb_nil _)))))) z)
set_option maxRecDepth 20000 in
theorem K588_100 {SC : List Value} {d s : Nat} {h : re_H} {Q : Nat → Value → re_H → Prop} {a1 : Nat} {a2 : Nat} {a3 : Nat} {x5 : Int32} {xs0 : Int32}
    (K : wp SC 576 d 0 0 [(0, .retAddr 2), (1, .int (((i32 2) * x5) + (i32 1)))] [] h (wp_ret SC 588 (d + 1) s 112 [(0, .retAddr 2), (1, .ref a1), (2, .ref a2), (3, .ref a3), (5, .int x5), (6, .int xs0)] [] Q)) : wp SC 588 (d + 1) s 100 [(0, .retAddr 2), (1, .ref a1), (2, .ref a2), (3, .ref a3), (5, .int x5)] [.int xs0] h Q := by
  refine wp_run 7 (pc' := 109) (lv' := [(6, .int xs0), (0, .retAddr 2), (1, .ref a1), (2, .ref a2), (3, .ref a3), (5, .int x5)]) (st' := [.int (((i32 2) * x5) + (i32 1)), .retAddr 2]) rfl ?_
  have eA : lv_args 0 ([.int (((i32 2) * x5) + (i32 1)), .retAddr 2].reverse) = [(0, .retAddr 2), (1, .int (((i32 2) * x5) + (i32 1)))] := by simp [lv_args, vc_i, vc_l, vc_r, vc_n, vc_a]
  refine wp_callS (ar := [.int (((i32 2) * x5) + (i32 1)), .retAddr 2]) (rest := []) (s1 := 0) (s2 := s) (d' := d) ⟨rfl, rfl⟩ rfl (Or.inl rfl) rfl (by simp [re_cat, vc_i, vc_l, vc_r, vc_n, vc_a]) (by rw [show re_cat ([.int (((i32 2) * x5) + (i32 1)), .retAddr 2].reverse) = 2 from by simp [re_cat, vc_i, vc_l, vc_r, vc_n, vc_a]]; decide) (by decide) rfl rfl (Nat.le_of_eq (Nat.zero_add s)) ?_
  rw [eA]
  exact wp_mono K (fun k v h' z => wp_ret_weak (re_sb_at rfl (re_sb_at rfl (re_sb_at rfl (re_sb_at rfl (re_sb_at rfl (re_sb_at rfl (re_sb_nil _))))))) z)
set_option maxRecDepth 20000 in
theorem K588_112 {SC : List Value} {d s : Nat} {h : re_H} {Q : Nat → Value → re_H → Prop} {a1 : Nat} {a2 : Nat} {a3 : Nat} {x5 : Int32} {x6 : Int32} {xs0 : Int32}
    (K : wp SC 577 d 0 0 [(0, .int x6), (1, .int (i32 16))] [] h (wp_ret SC 588 (d + 1) s 121 [(0, .retAddr 2), (1, .ref a1), (2, .ref a2), (3, .ref a3), (5, .int x5), (6, .int x6), (7, .int xs0)] [] Q)) : wp SC 588 (d + 1) s 112 [(0, .retAddr 2), (1, .ref a1), (2, .ref a2), (3, .ref a3), (5, .int x5), (6, .int x6)] [.int xs0] h Q := by
  refine wp_run 2 (pc' := 116) (lv' := [(7, .int xs0), (0, .retAddr 2), (1, .ref a1), (2, .ref a2), (3, .ref a3), (5, .int x5), (6, .int x6)]) (st' := [.int x6]) rfl ?_
  refine wp_bi (x := (i32 16)) ⟨rfl, rfl⟩ (by decide) ?_
  have eA : lv_args 0 ([.int (i32 16), .int x6].reverse) = [(0, .int x6), (1, .int (i32 16))] := by simp [lv_args, vc_i, vc_l, vc_r, vc_n, vc_a]
  refine wp_callS (ar := [.int (i32 16), .int x6]) (rest := []) (s1 := 0) (s2 := s) (d' := d) ⟨rfl, rfl⟩ rfl (Or.inl rfl) rfl (by simp [re_cat, vc_i, vc_l, vc_r, vc_n, vc_a]) (by rw [show re_cat ([.int (i32 16), .int x6].reverse) = 2 from by simp [re_cat, vc_i, vc_l, vc_r, vc_n, vc_a]]; decide) (by decide) rfl rfl (Nat.le_of_eq (Nat.zero_add s)) ?_
  rw [eA]
  exact wp_mono K (fun k v h' z => wp_ret_weak (re_sb_at rfl (re_sb_at rfl (re_sb_at rfl (re_sb_at rfl (re_sb_at rfl (re_sb_at rfl (re_sb_at rfl (re_sb_nil _)))))))) z)
set_option maxRecDepth 20000 in
theorem K588_121 {SC : List Value} {d s : Nat} {h : re_H} {Q : Nat → Value → re_H → Prop} {a1 : Nat} {a2 : Nat} {a3 : Nat} {x5 : Int32} {x6 : Int32} {x7 : Int32} {xs0 : Int32}
    (K1 : ¬ xs0 < (i32 9) → wp SC 588 d s 143 [(0, .retAddr 2), (1, .ref a1), (2, .ref a2), (3, .ref a3), (5, .int x5), (6, .int x6), (7, .int x7), (8, .int xs0)] [] h Q) (K2 : xs0 < (i32 9) → wp SC 588 d s 130 [(0, .retAddr 2), (1, .ref a1), (2, .ref a2), (3, .ref a3), (5, .int x5), (7, .int x7)] [] h Q) : wp SC 588 d s 121 [(0, .retAddr 2), (1, .ref a1), (2, .ref a2), (3, .ref a3), (5, .int x5), (6, .int x6), (7, .int x7)] [.int xs0] h Q := by
  refine wp_run 2 (pc' := 125) (lv' := [(8, .int xs0), (0, .retAddr 2), (1, .ref a1), (2, .ref a2), (3, .ref a3), (5, .int x5), (6, .int x6), (7, .int x7)]) (st' := [.int xs0]) rfl ?_
  refine wp_bi (x := (i32 9)) ⟨rfl, rfl⟩ (by decide) ?_
  exact wp_cmp ⟨rfl, rfl⟩ rfl (fun hc => wp_weak (re_sb_at rfl (re_sb_at rfl (re_sb_at rfl (re_sb_at rfl (re_sb_at rfl (re_sb_at rfl (re_sb_at rfl (re_sb_at rfl (re_sb_nil _))))))))) (K1 (ic1_ge hc))) (fun hc => wp_weak (re_sb_at rfl (re_sb_at rfl (re_sb_at rfl (re_sb_at rfl (re_sb_at rfl (re_sb_at rfl (re_sb_nil _))))))) (K2 (ic0_ge hc)))
set_option maxRecDepth 20000 in
theorem K588_130 {SC : List Value} {d s : Nat} {h : re_H} {Q : Nat → Value → re_H → Prop} {a1 : Nat} {a2 : Nat} {a3 : Nat} {x5 : Int32} {x7 : Int32}
    {s1 s2 : Nat} (hs : s1 + s2 ≤ s) (K : wp SC 584 d s1 0 [(0, .ref a1), (1, .ref a2), (2, .ref a3), (3, .int x7)] [] h (wp_ret SC 588 (d + 1) s2 138 [(0, .retAddr 2), (1, .ref a1), (2, .ref a2), (3, .ref a3), (5, .int x5)] [] Q)) : wp SC 588 (d + 1) s 130 [(0, .retAddr 2), (1, .ref a1), (2, .ref a2), (3, .ref a3), (5, .int x5), (7, .int x7)] [] h Q := by
  refine wp_run 4 (pc' := 135) (lv' := [(0, .retAddr 2), (1, .ref a1), (2, .ref a2), (3, .ref a3), (5, .int x5), (7, .int x7)]) (st' := [.int x7, .ref a3, .ref a2, .ref a1]) rfl ?_
  have eA : lv_args 0 ([.int x7, .ref a3, .ref a2, .ref a1].reverse) = [(0, .ref a1), (1, .ref a2), (2, .ref a3), (3, .int x7)] := by simp [lv_args, vc_i, vc_l, vc_r, vc_n, vc_a]
  refine wp_callS (ar := [.int x7, .ref a3, .ref a2, .ref a1]) (rest := []) (s1 := s1) (s2 := s2) (d' := d) ⟨rfl, rfl⟩ rfl (Or.inl rfl) rfl (by simp [re_cat, vc_i, vc_l, vc_r, vc_n, vc_a]) (by rw [show re_cat ([.int x7, .ref a3, .ref a2, .ref a1].reverse) = 4 from by simp [re_cat, vc_i, vc_l, vc_r, vc_n, vc_a]]; decide) (by decide) rfl rfl hs ?_
  rw [eA]
  exact wp_mono K (fun k v h' z => wp_ret_weak (re_sb_at rfl (re_sb_at rfl (re_sb_at rfl (re_sb_at rfl (re_sb_at rfl (re_sb_nil _)))))) z)
set_option maxRecDepth 20000 in
theorem K588_138 {SC : List Value} {d s : Nat} {h : re_H} {Q : Nat → Value → re_H → Prop} {a1 : Nat} {a2 : Nat} {a3 : Nat} {x5 : Int32} {xs0 : Int32}
    (K : wp SC 588 d s 181 [(0, .retAddr 2), (1, .ref a1), (2, .ref a2), (3, .ref a3), (4, .int xs0), (5, .int x5)] [] h Q) : wp SC 588 d s 138 [(0, .retAddr 2), (1, .ref a1), (2, .ref a2), (3, .ref a3), (5, .int x5)] [.int xs0] h Q := by
  refine wp_run 2 (pc' := 181) (lv' := [(4, .int xs0), (0, .retAddr 2), (1, .ref a1), (2, .ref a2), (3, .ref a3), (5, .int x5)]) (st' := []) rfl ?_
  exact wp_weak (re_sb_at rfl (re_sb_at rfl (re_sb_at rfl (re_sb_at rfl (re_sb_at rfl (re_sb_at rfl (re_sb_nil _))))))) K
set_option maxRecDepth 20000 in
theorem K588_143 {SC : List Value} {d s : Nat} {h : re_H} {Q : Nat → Value → re_H → Prop} {a1 : Nat} {a2 : Nat} {a3 : Nat} {x5 : Int32} {x6 : Int32} {x7 : Int32} {x8 : Int32}
    (K1 : ¬ x8 < (i32 13) → wp SC 588 d s 167 [(0, .retAddr 2), (1, .ref a1), (2, .ref a2), (3, .ref a3), (5, .int x5), (6, .int x6), (7, .int x7)] [] h Q) (K2 : x8 < (i32 13) → wp SC 588 d s 150 [(0, .retAddr 2), (1, .ref a1), (2, .ref a2), (3, .ref a3), (5, .int x5), (6, .int x6), (7, .int x7)] [] h Q) : wp SC 588 d s 143 [(0, .retAddr 2), (1, .ref a1), (2, .ref a2), (3, .ref a3), (5, .int x5), (6, .int x6), (7, .int x7), (8, .int x8)] [] h Q := by
  refine wp_run 1 (pc' := 145) (lv' := [(0, .retAddr 2), (1, .ref a1), (2, .ref a2), (3, .ref a3), (5, .int x5), (6, .int x6), (7, .int x7), (8, .int x8)]) (st' := [.int x8]) rfl ?_
  refine wp_bi (x := (i32 13)) ⟨rfl, rfl⟩ (by decide) ?_
  exact wp_cmp ⟨rfl, rfl⟩ rfl (fun hc => wp_weak (re_sb_at rfl (re_sb_at rfl (re_sb_at rfl (re_sb_at rfl (re_sb_at rfl (re_sb_at rfl (re_sb_at rfl (re_sb_nil _)))))))) (K1 (ic1_ge hc))) (fun hc => wp_weak (re_sb_at rfl (re_sb_at rfl (re_sb_at rfl (re_sb_at rfl (re_sb_at rfl (re_sb_at rfl (re_sb_at rfl (re_sb_nil _)))))))) (K2 (ic0_ge hc)))
set_option maxRecDepth 20000 in
theorem K588_150 {SC : List Value} {d s : Nat} {h : re_H} {Q : Nat → Value → re_H → Prop} {a1 : Nat} {a2 : Nat} {a3 : Nat} {x5 : Int32} {x6 : Int32} {x7 : Int32}
    {s1 s2 : Nat} (hs : s1 + s2 ≤ s) (K : wp SC 585 d s1 0 [(0, .ref a1), (1, .ref a2), (2, .ref a3), (3, .int (x6 >>> ((i32 4) &&& 31))), (4, .int x7)] [] h (wp_ret SC 588 (d + 1) s2 162 [(0, .retAddr 2), (1, .ref a1), (2, .ref a2), (3, .ref a3), (5, .int x5)] [] Q)) : wp SC 588 (d + 1) s 150 [(0, .retAddr 2), (1, .ref a1), (2, .ref a2), (3, .ref a3), (5, .int x5), (6, .int x6), (7, .int x7)] [] h Q := by
  refine wp_run 7 (pc' := 159) (lv' := [(0, .retAddr 2), (1, .ref a1), (2, .ref a2), (3, .ref a3), (5, .int x5), (6, .int x6), (7, .int x7)]) (st' := [.int x7, .int (x6 >>> ((i32 4) &&& 31)), .ref a3, .ref a2, .ref a1]) rfl ?_
  have eA : lv_args 0 ([.int x7, .int (x6 >>> ((i32 4) &&& 31)), .ref a3, .ref a2, .ref a1].reverse) = [(0, .ref a1), (1, .ref a2), (2, .ref a3), (3, .int (x6 >>> ((i32 4) &&& 31))), (4, .int x7)] := by simp [lv_args, vc_i, vc_l, vc_r, vc_n, vc_a]
  refine wp_callS (ar := [.int x7, .int (x6 >>> ((i32 4) &&& 31)), .ref a3, .ref a2, .ref a1]) (rest := []) (s1 := s1) (s2 := s2) (d' := d) ⟨rfl, rfl⟩ rfl (Or.inl rfl) rfl (by simp [re_cat, vc_i, vc_l, vc_r, vc_n, vc_a]) (by rw [show re_cat ([.int x7, .int (x6 >>> ((i32 4) &&& 31)), .ref a3, .ref a2, .ref a1].reverse) = 5 from by simp [re_cat, vc_i, vc_l, vc_r, vc_n, vc_a]]; decide) (by decide) rfl rfl hs ?_
  rw [eA]
  exact wp_mono K (fun k v h' z => wp_ret_weak (re_sb_at rfl (re_sb_at rfl (re_sb_at rfl (re_sb_at rfl (re_sb_at rfl (re_sb_nil _)))))) z)
set_option maxRecDepth 20000 in
theorem K588_162 {SC : List Value} {d s : Nat} {h : re_H} {Q : Nat → Value → re_H → Prop} {a1 : Nat} {a2 : Nat} {a3 : Nat} {x5 : Int32} {xs0 : Int32}
    (K : wp SC 588 d s 181 [(0, .retAddr 2), (1, .ref a1), (2, .ref a2), (3, .ref a3), (4, .int xs0), (5, .int x5)] [] h Q) : wp SC 588 d s 162 [(0, .retAddr 2), (1, .ref a1), (2, .ref a2), (3, .ref a3), (5, .int x5)] [.int xs0] h Q := by
  refine wp_run 2 (pc' := 181) (lv' := [(4, .int xs0), (0, .retAddr 2), (1, .ref a1), (2, .ref a2), (3, .ref a3), (5, .int x5)]) (st' := []) rfl ?_
  exact wp_weak (re_sb_at rfl (re_sb_at rfl (re_sb_at rfl (re_sb_at rfl (re_sb_at rfl (re_sb_at rfl (re_sb_nil _))))))) K
set_option maxRecDepth 20000 in
theorem K588_167 {SC : List Value} {d s : Nat} {h : re_H} {Q : Nat → Value → re_H → Prop} {a1 : Nat} {a2 : Nat} {a3 : Nat} {x5 : Int32} {x6 : Int32} {x7 : Int32}
    {s1 s2 : Nat} (hs : s1 + s2 ≤ s) (K : wp SC 586 d s1 0 [(0, .ref a1), (1, .ref a2), (2, .ref a3), (3, .int (x6 >>> ((i32 4) &&& 31))), (4, .int x7)] [] h (wp_ret SC 588 (d + 1) s2 179 [(0, .retAddr 2), (1, .ref a1), (2, .ref a2), (3, .ref a3), (5, .int x5)] [] Q)) : wp SC 588 (d + 1) s 167 [(0, .retAddr 2), (1, .ref a1), (2, .ref a2), (3, .ref a3), (5, .int x5), (6, .int x6), (7, .int x7)] [] h Q := by
  refine wp_run 7 (pc' := 176) (lv' := [(0, .retAddr 2), (1, .ref a1), (2, .ref a2), (3, .ref a3), (5, .int x5), (6, .int x6), (7, .int x7)]) (st' := [.int x7, .int (x6 >>> ((i32 4) &&& 31)), .ref a3, .ref a2, .ref a1]) rfl ?_
  have eA : lv_args 0 ([.int x7, .int (x6 >>> ((i32 4) &&& 31)), .ref a3, .ref a2, .ref a1].reverse) = [(0, .ref a1), (1, .ref a2), (2, .ref a3), (3, .int (x6 >>> ((i32 4) &&& 31))), (4, .int x7)] := by simp [lv_args, vc_i, vc_l, vc_r, vc_n, vc_a]
  refine wp_callS (ar := [.int x7, .int (x6 >>> ((i32 4) &&& 31)), .ref a3, .ref a2, .ref a1]) (rest := []) (s1 := s1) (s2 := s2) (d' := d) ⟨rfl, rfl⟩ rfl (Or.inl rfl) rfl (by simp [re_cat, vc_i, vc_l, vc_r, vc_n, vc_a]) (by rw [show re_cat ([.int x7, .int (x6 >>> ((i32 4) &&& 31)), .ref a3, .ref a2, .ref a1].reverse) = 5 from by simp [re_cat, vc_i, vc_l, vc_r, vc_n, vc_a]]; decide) (by decide) rfl rfl hs ?_
  rw [eA]
  exact wp_mono K (fun k v h' z => wp_ret_weak (re_sb_at rfl (re_sb_at rfl (re_sb_at rfl (re_sb_at rfl (re_sb_at rfl (re_sb_nil _)))))) z)
set_option maxRecDepth 20000 in
theorem K588_179 {SC : List Value} {d s : Nat} {h : re_H} {Q : Nat → Value → re_H → Prop} {a1 : Nat} {a2 : Nat} {a3 : Nat} {x5 : Int32} {xs0 : Int32}
    (K : wp SC 588 d s 181 [(0, .retAddr 2), (1, .ref a1), (2, .ref a2), (3, .ref a3), (4, .int xs0), (5, .int x5)] [] h Q) : wp SC 588 d s 179 [(0, .retAddr 2), (1, .ref a1), (2, .ref a2), (3, .ref a3), (5, .int x5)] [.int xs0] h Q := by
  refine wp_run 1 (pc' := 181) (lv' := [(4, .int xs0), (0, .retAddr 2), (1, .ref a1), (2, .ref a2), (3, .ref a3), (5, .int x5)]) (st' := []) rfl ?_
  exact wp_weak (re_sb_at rfl (re_sb_at rfl (re_sb_at rfl (re_sb_at rfl (re_sb_at rfl (re_sb_at rfl (re_sb_nil _))))))) K
set_option maxRecDepth 20000 in
theorem K588_181 {SC : List Value} {d s : Nat} {h : re_H} {Q : Nat → Value → re_H → Prop} {a1 : Nat} {a2 : Nat} {a3 : Nat} {x4 : Int32} {x5 : Int32}
    (K1 : x4 = 0 → wp SC 588 d s 250 [(0, .retAddr 2), (1, .ref a1), (2, .ref a2), (3, .ref a3), (5, .int x5)] [] h Q) (K2 : ¬ x4 = 0 → wp SC 588 d s 186 [(0, .retAddr 2), (1, .ref a1), (2, .ref a2), (3, .ref a3), (5, .int x5)] [] h Q) : wp SC 588 d s 181 [(0, .retAddr 2), (1, .ref a1), (2, .ref a2), (3, .ref a3), (4, .int x4), (5, .int x5)] [] h Q := by
  refine wp_run 1 (pc' := 183) (lv' := [(0, .retAddr 2), (1, .ref a1), (2, .ref a2), (3, .ref a3), (4, .int x4), (5, .int x5)]) (st' := [.int x4]) rfl ?_
  exact wp_if ⟨rfl, rfl⟩ rfl (fun hc => wp_weak (re_sb_at rfl (re_sb_at rfl (re_sb_at rfl (re_sb_at rfl (re_sb_at rfl (re_sb_nil _)))))) (K1 (ic1_eq hc))) (fun hc => wp_weak (re_sb_at rfl (re_sb_at rfl (re_sb_at rfl (re_sb_at rfl (re_sb_at rfl (re_sb_nil _)))))) (K2 (ic0_eq hc)))
set_option maxRecDepth 20000 in
theorem K588_186 {SC : List Value} {d s : Nat} {h : re_H} {Q : Nat → Value → re_H → Prop} {a1 : Nat} {a2 : Nat} {a3 : Nat} {x5 : Int32}
    (K1 : 0 < (x5 - x5 / (i32 6) * (i32 6)) → wp SC 588 d s 228 [(0, .retAddr 2), (1, .ref a1), (2, .ref a2), (3, .ref a3), (5, .int x5)] [] h Q) (K2 : ¬ 0 < (x5 - x5 / (i32 6) * (i32 6)) → wp SC 588 d s 194 [(0, .retAddr 2), (1, .ref a1), (2, .ref a2), (3, .ref a3), (5, .int x5)] [] h Q) : wp SC 588 d s 186 [(0, .retAddr 2), (1, .ref a1), (2, .ref a2), (3, .ref a3), (5, .int x5)] [] h Q := by
  refine wp_run 1 (pc' := 188) (lv' := [(0, .retAddr 2), (1, .ref a1), (2, .ref a2), (3, .ref a3), (5, .int x5)]) (st' := [.int x5]) rfl ?_
  refine wp_bi (x := (i32 6)) ⟨rfl, rfl⟩ (by decide) ?_
  refine wp_pure (pc' := 191) (lv' := [(0, .retAddr 2), (1, .ref a1), (2, .ref a2), (3, .ref a3), (5, .int x5)]) (st' := [.int (x5 - x5 / (i32 6) * (i32 6))]) ⟨rfl, rfl⟩ (by simp only [re_pure, if_neg (show ¬ (i32 6) = 0 from by decide)]) ?_
  exact wp_if ⟨rfl, rfl⟩ rfl (fun hc => wp_weak (re_sb_at rfl (re_sb_at rfl (re_sb_at rfl (re_sb_at rfl (re_sb_at rfl (re_sb_nil _)))))) (K1 (ic1_gt hc))) (fun hc => wp_weak (re_sb_at rfl (re_sb_at rfl (re_sb_at rfl (re_sb_at rfl (re_sb_at rfl (re_sb_nil _)))))) (K2 (ic0_gt hc)))
set_option maxRecDepth 20000 in
theorem K588_194 {SC : List Value} {d s : Nat} {h : re_H} {Q : Nat → Value → re_H → Prop} {a1 : Nat} {a2 : Nat} {a3 : Nat} {x5 : Int32}
    {xe1 : Int32} (e2 : nb_ar h a3 100 (i32 1) (.int xe1)) {s1 s2 : Nat} (hs : s1 + s2 ≤ s) (K : wp SC 578 d s1 0 [(0, .ref a1), (1, .int xe1)] [] h (wp_ret SC 588 (d + 1) s2 201 [(0, .retAddr 2), (1, .ref a1), (2, .ref a2), (3, .ref a3), (5, .int x5)] [] Q)) : wp SC 588 (d + 1) s 194 [(0, .retAddr 2), (1, .ref a1), (2, .ref a2), (3, .ref a3), (5, .int x5)] [] h Q := by
  refine wp_run 3 (pc' := 197) (lv' := [(0, .retAddr 2), (1, .ref a1), (2, .ref a2), (3, .ref a3), (5, .int x5)]) (st' := [.int (i32 1), .ref a3, .ref a1]) rfl ?_
  obtain ⟨w2, i2, e2a, e2x, e2i, e2v⟩ := e2
  refine wp_ial ⟨rfl, rfl⟩ e2a rfl e2x e2i e2v ?_
  have eA : lv_args 0 ([.int xe1, .ref a1].reverse) = [(0, .ref a1), (1, .int xe1)] := by simp [lv_args, vc_i, vc_l, vc_r, vc_n, vc_a]
  refine wp_callS (ar := [.int xe1, .ref a1]) (rest := []) (s1 := s1) (s2 := s2) (d' := d) ⟨rfl, rfl⟩ rfl (Or.inl rfl) rfl (by simp [re_cat, vc_i, vc_l, vc_r, vc_n, vc_a]) (by rw [show re_cat ([.int xe1, .ref a1].reverse) = 2 from by simp [re_cat, vc_i, vc_l, vc_r, vc_n, vc_a]]; decide) (by decide) rfl rfl hs ?_
  rw [eA]
  exact wp_mono K (fun k v h' z => wp_ret_weak (re_sb_at rfl (re_sb_at rfl (re_sb_at rfl (re_sb_at rfl (re_sb_at rfl (re_sb_nil _)))))) z)
set_option maxRecDepth 20000 in
theorem K588_201 {SC : List Value} {d s : Nat} {h : re_H} {Q : Nat → Value → re_H → Prop} {a1 : Nat} {a2 : Nat} {a3 : Nat} {x5 : Int32} {ls0 : Int64}
    {xe1 : Int32} (e2 : nb_ar h a3 100 (i32 1) (.int xe1)) {s1 s2 : Nat} (hs : s1 + s2 ≤ s) (K : wp SC 578 d s1 0 [(0, .ref a2), (1, .int xe1)] [] h (wp_ret SC 588 (d + 1) s2 208 [(0, .retAddr 2), (1, .ref a1), (2, .ref a2), (3, .ref a3), (5, .int x5)] [.long ls0] Q)) : wp SC 588 (d + 1) s 201 [(0, .retAddr 2), (1, .ref a1), (2, .ref a2), (3, .ref a3), (5, .int x5)] [.long ls0] h Q := by
  refine wp_run 3 (pc' := 204) (lv' := [(0, .retAddr 2), (1, .ref a1), (2, .ref a2), (3, .ref a3), (5, .int x5)]) (st' := [.int (i32 1), .ref a3, .ref a2, .long ls0]) rfl ?_
  obtain ⟨w2, i2, e2a, e2x, e2i, e2v⟩ := e2
  refine wp_ial ⟨rfl, rfl⟩ e2a rfl e2x e2i e2v ?_
  have eA : lv_args 0 ([.int xe1, .ref a2].reverse) = [(0, .ref a2), (1, .int xe1)] := by simp [lv_args, vc_i, vc_l, vc_r, vc_n, vc_a]
  refine wp_callS (ar := [.int xe1, .ref a2]) (rest := [.long ls0]) (s1 := s1) (s2 := s2) (d' := d) ⟨rfl, rfl⟩ rfl (Or.inl rfl) rfl (by simp [re_cat, vc_i, vc_l, vc_r, vc_n, vc_a]) (by rw [show re_cat ([.int xe1, .ref a2].reverse) = 2 from by simp [re_cat, vc_i, vc_l, vc_r, vc_n, vc_a]]; decide) (by decide) rfl rfl hs ?_
  rw [eA]
  exact wp_mono K (fun k v h' z => wp_ret_weak (re_sb_at rfl (re_sb_at rfl (re_sb_at rfl (re_sb_at rfl (re_sb_at rfl (re_sb_nil _)))))) z)
set_option maxRecDepth 20000 in
theorem K588_208 {SC : List Value} {d s : Nat} {h : re_H} {Q : Nat → Value → re_H → Prop} {a1 : Nat} {a2 : Nat} {a3 : Nat} {x5 : Int32} {ls0 : Int64} {ls1 : Int64}
    (K1 : ¬ ls1 = ls0 → wp SC 588 d s 250 [(0, .retAddr 2), (1, .ref a1), (2, .ref a2), (3, .ref a3), (5, .int x5)] [] h Q) (K2 : ls1 = ls0 → wp SC 588 d s 212 [(0, .retAddr 2), (1, .ref a1), (2, .ref a2), (3, .ref a3), (5, .int x5)] [] h Q) : wp SC 588 d s 208 [(0, .retAddr 2), (1, .ref a1), (2, .ref a2), (3, .ref a3), (5, .int x5)] [.long ls0, .long ls1] h Q := by
  refine wp_run 1 (pc' := 209) (lv' := [(0, .retAddr 2), (1, .ref a1), (2, .ref a2), (3, .ref a3), (5, .int x5)]) (st' := [.int (lg_cmp ls1 ls0)]) rfl ?_
  exact wp_if ⟨rfl, rfl⟩ rfl (fun hc => wp_weak (re_sb_at rfl (re_sb_at rfl (re_sb_at rfl (re_sb_at rfl (re_sb_at rfl (re_sb_nil _)))))) (K1 (lc1_ne hc))) (fun hc => wp_weak (re_sb_at rfl (re_sb_at rfl (re_sb_at rfl (re_sb_at rfl (re_sb_at rfl (re_sb_nil _)))))) (K2 (lc0_ne hc)))
set_option maxRecDepth 20000 in
theorem K588_212 {SC : List Value} {d s : Nat} {h : re_H} {Q : Nat → Value → re_H → Prop} {a1 : Nat} {a2 : Nat} {a3 : Nat} {x5 : Int32}
    {xe1 : Int32} (e2 : nb_ar h a3 100 (i32 1) (.int xe1)) {xe3 : Int32} (e4 : nb_ar h a3 100 (i32 2) (.int xe3)) {xe5 : Int32} (e6 : nb_ar h a3 100 (i32 4) (.int xe5)) {s1 s2 : Nat} (hs : s1 + s2 ≤ s) (K : wp SC 582 d s1 0 [(0, .ref a1), (1, .int xe1), (2, .int xe3), (3, .int xe5)] [] h (wp_ret SC 588 (d + 1) s2 225 [(0, .retAddr 2), (1, .ref a1), (2, .ref a2), (3, .ref a3), (5, .int x5)] [] Q)) : wp SC 588 (d + 1) s 212 [(0, .retAddr 2), (1, .ref a1), (2, .ref a2), (3, .ref a3), (5, .int x5)] [] h Q := by
  refine wp_run 3 (pc' := 215) (lv' := [(0, .retAddr 2), (1, .ref a1), (2, .ref a2), (3, .ref a3), (5, .int x5)]) (st' := [.int (i32 1), .ref a3, .ref a1]) rfl ?_
  obtain ⟨w2, i2, e2a, e2x, e2i, e2v⟩ := e2
  refine wp_ial ⟨rfl, rfl⟩ e2a rfl e2x e2i e2v ?_
  refine wp_run 2 (pc' := 218) (lv' := [(0, .retAddr 2), (1, .ref a1), (2, .ref a2), (3, .ref a3), (5, .int x5)]) (st' := [.int (i32 2), .ref a3, .int xe1, .ref a1]) rfl ?_
  obtain ⟨w4, i4, e4a, e4x, e4i, e4v⟩ := e4
  refine wp_ial ⟨rfl, rfl⟩ e4a rfl e4x e4i e4v ?_
  refine wp_run 2 (pc' := 221) (lv' := [(0, .retAddr 2), (1, .ref a1), (2, .ref a2), (3, .ref a3), (5, .int x5)]) (st' := [.int (i32 4), .ref a3, .int xe3, .int xe1, .ref a1]) rfl ?_
  obtain ⟨w6, i6, e6a, e6x, e6i, e6v⟩ := e6
  refine wp_ial ⟨rfl, rfl⟩ e6a rfl e6x e6i e6v ?_
  have eA : lv_args 0 ([.int xe5, .int xe3, .int xe1, .ref a1].reverse) = [(0, .ref a1), (1, .int xe1), (2, .int xe3), (3, .int xe5)] := by simp [lv_args, vc_i, vc_l, vc_r, vc_n, vc_a]
  refine wp_callS (ar := [.int xe5, .int xe3, .int xe1, .ref a1]) (rest := []) (s1 := s1) (s2 := s2) (d' := d) ⟨rfl, rfl⟩ rfl (Or.inl rfl) rfl (by simp [re_cat, vc_i, vc_l, vc_r, vc_n, vc_a]) (by rw [show re_cat ([.int xe5, .int xe3, .int xe1, .ref a1].reverse) = 4 from by simp [re_cat, vc_i, vc_l, vc_r, vc_n, vc_a]]; decide) (by decide) rfl rfl hs ?_
  rw [eA]
  exact wp_mono K (fun k v h' z => wp_ret_weak (re_sb_at rfl (re_sb_at rfl (re_sb_at rfl (re_sb_at rfl (re_sb_at rfl (re_sb_nil _)))))) z)
set_option maxRecDepth 20000 in
theorem K588_225 {SC : List Value} {d s : Nat} {h : re_H} {Q : Nat → Value → re_H → Prop} {a1 : Nat} {a2 : Nat} {a3 : Nat} {x5 : Int32} {xs0 : Int32}
    (K1 : xs0 = 0 → wp SC 588 d s 250 [(0, .retAddr 2), (1, .ref a1), (2, .ref a2), (3, .ref a3), (5, .int x5)] [] h Q) (K2 : ¬ xs0 = 0 → wp SC 588 d s 228 [(0, .retAddr 2), (1, .ref a1), (2, .ref a2), (3, .ref a3), (5, .int x5)] [] h Q) : wp SC 588 d s 225 [(0, .retAddr 2), (1, .ref a1), (2, .ref a2), (3, .ref a3), (5, .int x5)] [.int xs0] h Q := by
  exact wp_if ⟨rfl, rfl⟩ rfl (fun hc => wp_weak (re_sb_at rfl (re_sb_at rfl (re_sb_at rfl (re_sb_at rfl (re_sb_at rfl (re_sb_nil _)))))) (K1 (ic1_eq hc))) (fun hc => wp_weak (re_sb_at rfl (re_sb_at rfl (re_sb_at rfl (re_sb_at rfl (re_sb_at rfl (re_sb_nil _)))))) (K2 (ic0_eq hc)))
set_option maxRecDepth 20000 in
theorem K588_228 {SC : List Value} {d s : Nat} {h : re_H} {Q : Nat → Value → re_H → Prop} {a1 : Nat} {a2 : Nat} {a3 : Nat} {x5 : Int32}
    (K1 : 0 < (x5 - x5 / (i32 30) * (i32 30)) → wp SC 588 d s 246 [(0, .retAddr 2), (1, .ref a1), (2, .ref a2), (3, .ref a3), (5, .int x5)] [] h Q) (K2 : ¬ 0 < (x5 - x5 / (i32 30) * (i32 30)) → wp SC 588 d s 236 [(0, .retAddr 2), (1, .ref a1), (2, .ref a2), (3, .ref a3), (5, .int x5)] [] h Q) : wp SC 588 d s 228 [(0, .retAddr 2), (1, .ref a1), (2, .ref a2), (3, .ref a3), (5, .int x5)] [] h Q := by
  refine wp_run 1 (pc' := 230) (lv' := [(0, .retAddr 2), (1, .ref a1), (2, .ref a2), (3, .ref a3), (5, .int x5)]) (st' := [.int x5]) rfl ?_
  refine wp_bi (x := (i32 30)) ⟨rfl, rfl⟩ (by decide) ?_
  refine wp_pure (pc' := 233) (lv' := [(0, .retAddr 2), (1, .ref a1), (2, .ref a2), (3, .ref a3), (5, .int x5)]) (st' := [.int (x5 - x5 / (i32 30) * (i32 30))]) ⟨rfl, rfl⟩ (by simp only [re_pure, if_neg (show ¬ (i32 30) = 0 from by decide)]) ?_
  exact wp_if ⟨rfl, rfl⟩ rfl (fun hc => wp_weak (re_sb_at rfl (re_sb_at rfl (re_sb_at rfl (re_sb_at rfl (re_sb_at rfl (re_sb_nil _)))))) (K1 (ic1_gt hc))) (fun hc => wp_weak (re_sb_at rfl (re_sb_at rfl (re_sb_at rfl (re_sb_at rfl (re_sb_at rfl (re_sb_nil _)))))) (K2 (ic0_gt hc)))
set_option maxRecDepth 20000 in
theorem K588_236 {SC : List Value} {d s : Nat} {h : re_H} {Q : Nat → Value → re_H → Prop} {a1 : Nat} {a2 : Nat} {a3 : Nat} {x5 : Int32}
    {xe1 : Int32} (e2 : nb_ar h a3 100 (i32 1) (.int xe1)) {s1 s2 : Nat} (hs : s1 + s2 ≤ s) (K : wp SC 587 d s1 0 [(0, .ref a1), (1, .int xe1)] [] h (wp_ret SC 588 (d + 1) s2 243 [(0, .retAddr 2), (1, .ref a1), (2, .ref a2), (3, .ref a3), (5, .int x5)] [] Q)) : wp SC 588 (d + 1) s 236 [(0, .retAddr 2), (1, .ref a1), (2, .ref a2), (3, .ref a3), (5, .int x5)] [] h Q := by
  refine wp_run 3 (pc' := 239) (lv' := [(0, .retAddr 2), (1, .ref a1), (2, .ref a2), (3, .ref a3), (5, .int x5)]) (st' := [.int (i32 1), .ref a3, .ref a1]) rfl ?_
  obtain ⟨w2, i2, e2a, e2x, e2i, e2v⟩ := e2
  refine wp_ial ⟨rfl, rfl⟩ e2a rfl e2x e2i e2v ?_
  have eA : lv_args 0 ([.int xe1, .ref a1].reverse) = [(0, .ref a1), (1, .int xe1)] := by simp [lv_args, vc_i, vc_l, vc_r, vc_n, vc_a]
  refine wp_callS (ar := [.int xe1, .ref a1]) (rest := []) (s1 := s1) (s2 := s2) (d' := d) ⟨rfl, rfl⟩ rfl (Or.inl rfl) rfl (by simp [re_cat, vc_i, vc_l, vc_r, vc_n, vc_a]) (by rw [show re_cat ([.int xe1, .ref a1].reverse) = 2 from by simp [re_cat, vc_i, vc_l, vc_r, vc_n, vc_a]]; decide) (by decide) rfl rfl hs ?_
  rw [eA]
  exact wp_mono K (fun k v h' z => wp_ret_weak (re_sb_at rfl (re_sb_at rfl (re_sb_at rfl (re_sb_at rfl (re_sb_at rfl (re_sb_nil _)))))) z)
set_option maxRecDepth 20000 in
theorem K588_243 {SC : List Value} {d s : Nat} {h : re_H} {Q : Nat → Value → re_H → Prop} {a1 : Nat} {a2 : Nat} {a3 : Nat} {x5 : Int32} {xs0 : Int32}
    (K1 : xs0 = 0 → wp SC 588 d s 250 [(0, .retAddr 2), (1, .ref a1), (2, .ref a2), (3, .ref a3), (5, .int x5)] [] h Q) (K2 : ¬ xs0 = 0 → wp SC 588 d s 246 [(0, .retAddr 2), (1, .ref a1), (2, .ref a2), (3, .ref a3), (5, .int x5)] [] h Q) : wp SC 588 d s 243 [(0, .retAddr 2), (1, .ref a1), (2, .ref a2), (3, .ref a3), (5, .int x5)] [.int xs0] h Q := by
  exact wp_if ⟨rfl, rfl⟩ rfl (fun hc => wp_weak (re_sb_at rfl (re_sb_at rfl (re_sb_at rfl (re_sb_at rfl (re_sb_at rfl (re_sb_nil _)))))) (K1 (ic1_eq hc))) (fun hc => wp_weak (re_sb_at rfl (re_sb_at rfl (re_sb_at rfl (re_sb_at rfl (re_sb_at rfl (re_sb_nil _)))))) (K2 (ic0_eq hc)))
set_option maxRecDepth 20000 in
theorem K588_246 {SC : List Value} {d s : Nat} {h : re_H} {Q : Nat → Value → re_H → Prop} {a1 : Nat} {a2 : Nat} {a3 : Nat} {x5 : Int32}
    (K : wp SC 588 d s 251 [(0, .retAddr 2), (1, .ref a1), (2, .ref a2), (3, .ref a3), (5, .int x5)] [.int (i32 1)] h Q) : wp SC 588 d s 246 [(0, .retAddr 2), (1, .ref a1), (2, .ref a2), (3, .ref a3), (5, .int x5)] [] h Q := by
  refine wp_run 2 (pc' := 251) (lv' := [(0, .retAddr 2), (1, .ref a1), (2, .ref a2), (3, .ref a3), (5, .int x5)]) (st' := [.int (i32 1)]) rfl ?_
  exact wp_weak (re_sb_at rfl (re_sb_at rfl (re_sb_at rfl (re_sb_at rfl (re_sb_at rfl (re_sb_nil _)))))) K
set_option maxRecDepth 20000 in
theorem K588_250 {SC : List Value} {d s : Nat} {h : re_H} {Q : Nat → Value → re_H → Prop} {a1 : Nat} {a2 : Nat} {a3 : Nat} {x5 : Int32}
    (K : wp SC 588 d s 251 [(0, .retAddr 2), (1, .ref a1), (2, .ref a2), (3, .ref a3), (5, .int x5)] [.int (i32 0)] h Q) : wp SC 588 d s 250 [(0, .retAddr 2), (1, .ref a1), (2, .ref a2), (3, .ref a3), (5, .int x5)] [] h Q := by
  refine wp_run 1 (pc' := 251) (lv' := [(0, .retAddr 2), (1, .ref a1), (2, .ref a2), (3, .ref a3), (5, .int x5)]) (st' := [.int (i32 0)]) rfl ?_
  exact wp_weak (re_sb_at rfl (re_sb_at rfl (re_sb_at rfl (re_sb_at rfl (re_sb_at rfl (re_sb_nil _)))))) K
set_option maxRecDepth 20000 in
theorem K588_251 {SC : List Value} {d s : Nat} {h : re_H} {Q : Nat → Value → re_H → Prop} {a1 : Nat} {a2 : Nat} {a3 : Nat} {x5 : Int32} {xs0 : Int32}
    (K : wp SC 588 d s 80 [(0, .retAddr 2), (1, .ref a1), (2, .ref a2), (3, .ref a3), (4, .int xs0), (5, .int (x5 + (i32 1)))] [] h Q) : wp SC 588 d s 251 [(0, .retAddr 2), (1, .ref a1), (2, .ref a2), (3, .ref a3), (5, .int x5)] [.int xs0] h Q := by
  refine wp_run 3 (pc' := 80) (lv' := [(5, .int (x5 + (i32 1))), (4, .int xs0), (0, .retAddr 2), (1, .ref a1), (2, .ref a2), (3, .ref a3)]) (st' := []) rfl ?_
  exact wp_weak (re_sb_at rfl (re_sb_at rfl (re_sb_at rfl (re_sb_at rfl (re_sb_at rfl (re_sb_at rfl (re_sb_nil _))))))) K
