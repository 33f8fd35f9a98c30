theorem B576_0 {SC : List Value} {d s : Nat} {h : re_H} {Q : Nat → Value → re_H → Prop} {x1 : Int32}
    (K1 : ¬ x1 < (i32 SC.length) → wp SC 576 d s 12 [(1, .int x1)] [] h Q) (K2 : x1 < (i32 SC.length) → wp SC 576 d s 6 [(0, .retAddr 2), (1, .int x1)] [] h Q) : wp SC 576 d s 0 [(0, .retAddr 2), (1, .int x1)] [] h Q := by
  refine wp_run 2 (pc' := 2) (lv' := [(0, .retAddr 2), (1, .int x1)]) (st' := [.retAddr 2, .int x1]) rfl ?_
  refine wp_sln ⟨rfl, rfl⟩ ?_
  exact wp_cmp ⟨rfl, rfl⟩ rfl (fun hc => wp_weak (re_sb_at rfl (re_sb_nil _)) (K1 (ic1_ge hc))) (fun hc => wp_weak (re_sb_at rfl (re_sb_at rfl (re_sb_nil _))) (K2 (ic0_ge hc)))
theorem B576_6 {SC : List Value} {d s : Nat} {h : re_H} {Q : Nat → Value → re_H → Prop} {x1 : Int32}
    {xe1 : Int32} (e2 : ∃ i : Nat, x1 = i32 i ∧ i < 2147483648 ∧ SC[i]? = some (.int xe1)) (K : wp SC 576 d s 19 [(1, .int x1)] [.int xe1] h Q) : wp SC 576 d s 6 [(0, .retAddr 2), (1, .int x1)] [] h Q := by
  refine wp_run 2 (pc' := 8) (lv' := [(0, .retAddr 2), (1, .int x1)]) (st' := [.int x1, .retAddr 2]) rfl ?_
  obtain ⟨i2, e2x, e2i, e2v⟩ := e2
  refine wp_sld ⟨rfl, rfl⟩ e2x e2i e2v ?_
  refine wp_run 1 (pc' := 19) (lv' := [(0, .retAddr 2), (1, .int x1)]) (st' := [.int xe1]) rfl ?_
  exact wp_weak (re_sb_at rfl (re_sb_nil _)) K
theorem B576_12 {SC : List Value} {d s : Nat} {h : re_H} {Q : Nat → Value → re_H → Prop} {x1 : Int32}
    (K : wp SC 576 d s 19 [(1, .int x1)] [.int ((91009) * (x1 + (i32 73)))] h Q) : wp SC 576 d s 12 [(1, .int x1)] [] h Q := by
  refine wp_cst (pc' := 14) (v := .int (91009)) ⟨rfl, rfl⟩ rfl rfl rfl rfl rfl ?_
  refine wp_run 1 (pc' := 15) (lv' := [(1, .int x1)]) (st' := [.int x1, .int (91009)]) rfl ?_
  refine wp_bi (x := (i32 73)) ⟨rfl, rfl⟩ (by decide) ?_
  refine wp_run 2 (pc' := 19) (lv' := [(1, .int x1)]) (st' := [.int ((91009) * (x1 + (i32 73)))]) rfl ?_
  exact wp_weak (re_sb_at rfl (re_sb_nil _)) K
theorem B576_19 {SC : List Value} {d s : Nat} {h : re_H} {Q : Nat → Value → re_H → Prop} {x1 : Int32} {xs0 : Int32}
    (K : Q 1 (.int (((xs0 ^^^ (xs0.toUInt32 >>> ((i32 16).toUInt32 &&& Int32.toUInt32 31)).toInt32) * (1012629033)) + ((i32 221) * x1))) h) : wp SC 576 d s 19 [(1, .int x1)] [.int xs0] h Q := by
  refine wp_run 3 (pc' := 22) (lv' := [(2, .int xs0), (1, .int x1)]) (st' := [.int xs0, .int xs0]) rfl ?_
  refine wp_bi (x := (i32 16)) ⟨rfl, rfl⟩ (by decide) ?_
  refine wp_run 2 (pc' := 26) (lv' := [(2, .int xs0), (1, .int x1)]) (st' := [.int (xs0 ^^^ (xs0.toUInt32 >>> ((i32 16).toUInt32 &&& Int32.toUInt32 31)).toInt32)]) rfl ?_
  refine wp_cst (pc' := 28) (v := .int (1012629033)) ⟨rfl, rfl⟩ rfl rfl rfl rfl rfl ?_
  refine wp_run 1 (pc' := 29) (lv' := [(2, .int xs0), (1, .int x1)]) (st' := [.int ((xs0 ^^^ (xs0.toUInt32 >>> ((i32 16).toUInt32 &&& Int32.toUInt32 31)).toInt32) * (1012629033))]) rfl ?_
  refine wp_si (x := (i32 221)) ⟨rfl, rfl⟩ (by decide) ?_
  refine wp_run 3 (pc' := 35) (lv' := [(2, .int xs0), (1, .int x1)]) (st' := [.int (((xs0 ^^^ (xs0.toUInt32 >>> ((i32 16).toUInt32 &&& Int32.toUInt32 31)).toInt32) * (1012629033)) + ((i32 221) * x1))]) rfl ?_
  exact wp_reti ⟨rfl, rfl⟩ rfl K
theorem B577_0 {SC : List Value} {d s : Nat} {h : re_H} {Q : Nat → Value → re_H → Prop} {x0 : Int32} {x1 : Int32}
    (n1 : ¬ x1 = 0) (K : Q 1 (.int ((x0.toUInt32 >>> ((i32 1).toUInt32 &&& Int32.toUInt32 31)).toInt32 - (x0.toUInt32 >>> ((i32 1).toUInt32 &&& Int32.toUInt32 31)).toInt32 / x1 * x1)) h) : wp SC 577 d s 0 [(0, .int x0), (1, .int x1)] [] h Q := by
  refine wp_run 4 (pc' := 4) (lv' := [(0, .int x0), (1, .int x1)]) (st' := [.int x1, .int (x0.toUInt32 >>> ((i32 1).toUInt32 &&& Int32.toUInt32 31)).toInt32]) rfl ?_
  refine wp_pure (pc' := 5) (lv' := [(0, .int x0), (1, .int x1)]) (st' := [.int ((x0.toUInt32 >>> ((i32 1).toUInt32 &&& Int32.toUInt32 31)).toInt32 - (x0.toUInt32 >>> ((i32 1).toUInt32 &&& Int32.toUInt32 31)).toInt32 / x1 * x1)]) ⟨rfl, rfl⟩ (by simp only [re_pure, if_neg n1]) ?_
  exact wp_reti ⟨rfl, rfl⟩ rfl K
set_option maxRecDepth 20000 in
theorem B578_0 {SC : List Value} {d s : Nat} {h : re_H} {Q : Nat → Value → re_H → Prop} {a0 : Nat} {x1 : Int32}
    (K : wp SC 578 d s 7 [(0, .ref a0), (1, .int x1), (2, .long (17)), (4, .int (i32 0))] [] h Q) : wp SC 578 d s 0 [(0, .ref a0), (1, .int x1)] [] h Q := by
  refine wp_cst (pc' := 3) (v := .long (17)) ⟨rfl, rfl⟩ rfl rfl rfl rfl rfl ?_
  refine wp_run 3 (pc' := 7) (lv' := [(4, .int (i32 0)), (2, .long (17)), (0, .ref a0), (1, .int x1)]) (st' := []) rfl ?_
  exact wp_weak (re_sb_at rfl (re_sb_at rfl (re_sb_at rfl (re_sb_at rfl (re_sb_nil _))))) K
set_option maxRecDepth 20000 in
theorem B578_7 {SC : List Value} {d s : Nat} {h : re_H} {Q : Nat → Value → re_H → Prop} {a0 : Nat} {x1 : Int32} {l2 : Int64} {x4 : Int32}
    (K1 : ¬ x4 < x1 → wp SC 578 d s 167 [(2, .long l2)] [] h Q) (K2 : x4 < x1 → wp SC 578 d s 13 [(0, .ref a0), (1, .int x1), (2, .long l2), (4, .int x4)] [] h Q) : wp SC 578 d s 7 [(0, .ref a0), (1, .int x1), (2, .long l2), (4, .int x4)] [] h Q := by
  refine wp_run 2 (pc' := 10) (lv' := [(0, .ref a0), (1, .int x1), (2, .long l2), (4, .int x4)]) (st' := [.int x1, .int x4]) rfl ?_
  exact wp_cmp ⟨rfl, rfl⟩ rfl (fun hc => wp_weak (re_sb_at rfl (re_sb_nil _)) (K1 (ic1_ge hc))) (fun hc => wp_weak (re_sb_at rfl (re_sb_at rfl (re_sb_at rfl (re_sb_at rfl (re_sb_nil _))))) (K2 (ic0_ge hc)))
set_option maxRecDepth 20000 in
theorem B578_13 {SC : List Value} {d s : Nat} {h : re_H} {Q : Nat → Value → re_H → Prop} {a0 : Nat} {x1 : Int32} {l2 : Int64} {x4 : Int32}
    (K : wp SC 579 d 0 0 [(0, .ref a0), (1, .int (i32 21)), (2, .int x4), (3, .int (i32 0))] [] h (wp_ret SC 578 (d + 1) s 22 [(0, .ref a0), (1, .int x1), (2, .long l2), (4, .int x4)] [] Q)) : wp SC 578 (d + 1) s 13 [(0, .ref a0), (1, .int x1), (2, .long l2), (4, .int x4)] [] h Q := by
  refine wp_run 1 (pc' := 14) (lv' := [(0, .ref a0), (1, .int x1), (2, .long l2), (4, .int x4)]) (st' := [.ref a0]) rfl ?_
  refine wp_bi (x := (i32 21)) ⟨rfl, rfl⟩ (by decide) ?_
  refine wp_run 2 (pc' := 19) (lv' := [(0, .ref a0), (1, .int x1), (2, .long l2), (4, .int x4)]) (st' := [.int (i32 0), .int x4, .int (i32 21), .ref a0]) rfl ?_
  have eA : lv_args 0 ([.int (i32 0), .int x4, .int (i32 21), .ref a0].reverse) = [(0, .ref a0), (1, .int (i32 21)), (2, .int x4), (3, .int (i32 0))] := by simp [lv_args, vc_i, vc_l, vc_r, vc_n, vc_a]
  refine wp_callS (ar := [.int (i32 0), .int x4, .int (i32 21), .ref a0]) (rest := []) (s1 := 0) (s2 := s) (d' := d) ⟨rfl, rfl⟩ rfl (Or.inr (Or.inr rfl)) rfl (by simp [re_cat, vc_i, vc_l, vc_r, vc_n, vc_a]) (by rw [show re_cat ([.int (i32 0), .int x4, .int (i32 21), .ref a0].reverse) = 4 from by simp [re_cat, vc_i, vc_l, vc_r, vc_n, vc_a]]; decide) (by decide) rfl rfl (Nat.le_of_eq (Nat.zero_add s)) ?_
  rw [eA]
  exact wp_mono K (fun k v h' z => wp_ret_weak (re_sb_at rfl (re_sb_at rfl (re_sb_at rfl (re_sb_at rfl (re_sb_nil _))))) z)
set_option maxRecDepth 20000 in
theorem B578_22 {SC : List Value} {d s : Nat} {h : re_H} {Q : Nat → Value → re_H → Prop} {a0 : Nat} {x1 : Int32} {l2 : Int64} {x4 : Int32} {ls0 : Int64}
    (K1 : ¬ ls0 = (-2000000001) → wp SC 578 d s 42 [(0, .ref a0), (1, .int x1), (2, .long l2), (4, .int x4)] [] h Q) (K2 : ls0 = (-2000000001) → wp SC 578 d s 29 [(0, .ref a0), (1, .int x1), (2, .long l2), (4, .int x4)] [] h Q) : wp SC 578 d s 22 [(0, .ref a0), (1, .int x1), (2, .long l2), (4, .int x4)] [.long ls0] h Q := by
  refine wp_cst (pc' := 25) (v := .long (-2000000001)) ⟨rfl, rfl⟩ rfl rfl rfl rfl rfl ?_
  refine wp_run 1 (pc' := 26) (lv' := [(0, .ref a0), (1, .int x1), (2, .long l2), (4, .int x4)]) (st' := [.int (lg_cmp ls0 (-2000000001))]) rfl ?_
  exact wp_if ⟨rfl, rfl⟩ rfl (fun hc => wp_weak (re_sb_at rfl (re_sb_at rfl (re_sb_at rfl (re_sb_at rfl (re_sb_nil _))))) (K1 (lc1_ne hc))) (fun hc => wp_weak (re_sb_at rfl (re_sb_at rfl (re_sb_at rfl (re_sb_at rfl (re_sb_nil _))))) (K2 (lc0_ne hc)))
set_option maxRecDepth 20000 in
theorem B578_29 {SC : List Value} {d s : Nat} {h : re_H} {Q : Nat → Value → re_H → Prop} {a0 : Nat} {x1 : Int32} {l2 : Int64} {x4 : Int32}
    (K : wp SC 578 d s 161 [(0, .ref a0), (1, .int x1), (2, .long ((l2 * (31)) + (7))), (4, .int x4)] [] h Q) : wp SC 578 d s 29 [(0, .ref a0), (1, .int x1), (2, .long l2), (4, .int x4)] [] h Q := by
  refine wp_run 1 (pc' := 30) (lv' := [(0, .ref a0), (1, .int x1), (2, .long l2), (4, .int x4)]) (st' := [.long l2]) rfl ?_
  refine wp_cst (pc' := 33) (v := .long (31)) ⟨rfl, rfl⟩ rfl rfl rfl rfl rfl ?_
  refine wp_run 1 (pc' := 34) (lv' := [(0, .ref a0), (1, .int x1), (2, .long l2), (4, .int x4)]) (st' := [.long (l2 * (31))]) rfl ?_
  refine wp_cst (pc' := 37) (v := .long (7)) ⟨rfl, rfl⟩ rfl rfl rfl rfl rfl ?_
  refine wp_run 3 (pc' := 161) (lv' := [(2, .long ((l2 * (31)) + (7))), (0, .ref a0), (1, .int x1), (4, .int x4)]) (st' := []) rfl ?_
  exact wp_weak (re_sb_at rfl (re_sb_at rfl (re_sb_at rfl (re_sb_at rfl (re_sb_nil _))))) K
set_option maxRecDepth 20000 in
theorem B578_42 {SC : List Value} {d s : Nat} {h : re_H} {Q : Nat → Value → re_H → Prop} {a0 : Nat} {x1 : Int32} {l2 : Int64} {x4 : Int32}
    {c : Nat} {w : List Value} (eg : re_hg h a0 = some (c, w)) (ec : c = 0) {s1 s2 : Nat} (hs : s1 + s2 ≤ s) (K : wp SC 31 d s1 0 [(0, .ref a0), (1, .int x4)] [] h (wp_ret SC 578 (d + 1) s2 53 [(0, .ref a0), (1, .int x1), (4, .int x4)] [.long (l2 * (31))] Q)) : wp SC 578 (d + 1) s 42 [(0, .ref a0), (1, .int x1), (2, .long l2), (4, .int x4)] [] h Q := by
  refine wp_run 1 (pc' := 43) (lv' := [(0, .ref a0), (1, .int x1), (2, .long l2), (4, .int x4)]) (st' := [.long l2]) rfl ?_
  refine wp_cst (pc' := 46) (v := .long (31)) ⟨rfl, rfl⟩ rfl rfl rfl rfl rfl ?_
  refine wp_run 3 (pc' := 50) (lv' := [(0, .ref a0), (1, .int x1), (2, .long l2), (4, .int x4)]) (st' := [.int x4, .ref a0, .long (l2 * (31))]) rfl ?_
  have eA : lv_args 0 (.ref a0 :: [.int x4].reverse) = [(0, .ref a0), (1, .int x4)] := by simp [lv_args, vc_i, vc_l, vc_r, vc_n, vc_a]
  refine wp_callV (ar := [.int x4]) (rest := [.long (l2 * (31))]) (s1 := s1) (s2 := s2) (d' := d) ⟨rfl, rfl⟩ rfl (Or.inl rfl)  (by simp [re_cat, vc_i, vc_l, vc_r, vc_n, vc_a]) (by rw [show re_cat (.ref a0 :: [.int x4].reverse) = 2 from by simp [re_cat, vc_i, vc_l, vc_r, vc_n, vc_a]]; decide) (by decide) rfl eg ec rfl hs ?_
  rw [eA]
  exact wp_mono K (fun k v h' z => wp_ret_weak (re_sb_at rfl (re_sb_at rfl (re_sb_at rfl (re_sb_nil _)))) z)
set_option maxRecDepth 20000 in
theorem B578_53 {SC : List Value} {d s : Nat} {h : re_H} {Q : Nat → Value → re_H → Prop} {a0 : Nat} {x1 : Int32} {x4 : Int32} {xs0 : Int32} {ls1 : Int64}
    {c : Nat} {w : List Value} (eg : re_hg h a0 = some (c, w)) (ec : c = 0) {s1 s2 : Nat} (hs : s1 + s2 ≤ s) (K : wp SC 32 d s1 0 [(0, .ref a0), (1, .int x4)] [] h (wp_ret SC 578 (d + 1) s2 65 [(0, .ref a0), (1, .int x1), (4, .int x4)] [.long ((ls1 + xs0.toInt64) * (31))] Q)) : wp SC 578 (d + 1) s 53 [(0, .ref a0), (1, .int x1), (4, .int x4)] [.int xs0, .long ls1] h Q := by
  refine wp_run 2 (pc' := 55) (lv' := [(0, .ref a0), (1, .int x1), (4, .int x4)]) (st' := [.long (ls1 + xs0.toInt64)]) rfl ?_
  refine wp_cst (pc' := 58) (v := .long (31)) ⟨rfl, rfl⟩ rfl rfl rfl rfl rfl ?_
  refine wp_run 3 (pc' := 62) (lv' := [(0, .ref a0), (1, .int x1), (4, .int x4)]) (st' := [.int x4, .ref a0, .long ((ls1 + xs0.toInt64) * (31))]) rfl ?_
  have eA : lv_args 0 (.ref a0 :: [.int x4].reverse) = [(0, .ref a0), (1, .int x4)] := by simp [lv_args, vc_i, vc_l, vc_r, vc_n, vc_a]
  refine wp_callV (ar := [.int x4]) (rest := [.long ((ls1 + xs0.toInt64) * (31))]) (s1 := s1) (s2 := s2) (d' := d) ⟨rfl, rfl⟩ rfl (Or.inl rfl)  (by simp [re_cat, vc_i, vc_l, vc_r, vc_n, vc_a]) (by rw [show re_cat (.ref a0 :: [.int x4].reverse) = 2 from by simp [re_cat, vc_i, vc_l, vc_r, vc_n, vc_a]]; decide) (by decide) rfl eg ec rfl hs ?_
  rw [eA]
  exact wp_mono K (fun k v h' z => wp_ret_weak (re_sb_at rfl (re_sb_at rfl (re_sb_at rfl (re_sb_nil _)))) z)
set_option maxRecDepth 20000 in
theorem B578_65 {SC : List Value} {d s : Nat} {h : re_H} {Q : Nat → Value → re_H → Prop} {a0 : Nat} {x1 : Int32} {x4 : Int32} {xs0 : Int32} {ls1 : Int64}
    (K1 : xs0 = 0 → wp SC 578 d s 72 [(0, .ref a0), (1, .int x1), (4, .int x4)] [.long ls1] h Q) (K2 : ¬ xs0 = 0 → wp SC 578 d s 68 [(0, .ref a0), (1, .int x1), (4, .int x4)] [.long ls1] h Q) : wp SC 578 d s 65 [(0, .ref a0), (1, .int x1), (4, .int x4)] [.int xs0, .long ls1] h Q := by
  exact wp_if ⟨rfl, rfl⟩ rfl (fun hc => wp_weak (re_sb_at rfl (re_sb_at rfl (re_sb_at rfl (re_sb_nil _)))) (K1 (ic1_eq hc))) (fun hc => wp_weak (re_sb_at rfl (re_sb_at rfl (re_sb_at rfl (re_sb_nil _)))) (K2 (ic0_eq hc)))
set_option maxRecDepth 20000 in
theorem B578_68 {SC : List Value} {d s : Nat} {h : re_H} {Q : Nat → Value → re_H → Prop} {a0 : Nat} {x1 : Int32} {x4 : Int32} {ls0 : Int64}
    (K : wp SC 578 d s 73 [(0, .ref a0), (1, .int x1), (4, .int x4)] [.int (i32 1), .long ls0] h Q) : wp SC 578 d s 68 [(0, .ref a0), (1, .int x1), (4, .int x4)] [.long ls0] h Q := by
  refine wp_run 2 (pc' := 73) (lv' := [(0, .ref a0), (1, .int x1), (4, .int x4)]) (st' := [.int (i32 1), .long ls0]) rfl ?_
  exact wp_weak (re_sb_at rfl (re_sb_at rfl (re_sb_at rfl (re_sb_nil _)))) K
set_option maxRecDepth 20000 in
theorem B578_72 {SC : List Value} {d s : Nat} {h : re_H} {Q : Nat → Value → re_H → Prop} {a0 : Nat} {x1 : Int32} {x4 : Int32} {ls0 : Int64}
    (K : wp SC 578 d s 73 [(0, .ref a0), (1, .int x1), (4, .int x4)] [.int (i32 0), .long ls0] h Q) : wp SC 578 d s 72 [(0, .ref a0), (1, .int x1), (4, .int x4)] [.long ls0] h Q := by
  refine wp_run 1 (pc' := 73) (lv' := [(0, .ref a0), (1, .int x1), (4, .int x4)]) (st' := [.int (i32 0), .long ls0]) rfl ?_
  exact wp_weak (re_sb_at rfl (re_sb_at rfl (re_sb_at rfl (re_sb_nil _)))) K
set_option maxRecDepth 20000 in
theorem B578_73 {SC : List Value} {d s : Nat} {h : re_H} {Q : Nat → Value → re_H → Prop} {a0 : Nat} {x1 : Int32} {x4 : Int32} {xs0 : Int32} {ls1 : Int64}
    {c : Nat} {w : List Value} (eg : re_hg h a0 = some (c, w)) (ec : c = 0) {s1 s2 : Nat} (hs : s1 + s2 ≤ s) (K : wp SC 39 d s1 0 [(0, .ref a0), (1, .int x4)] [] h (wp_ret SC 578 (d + 1) s2 85 [(0, .ref a0), (1, .int x1), (4, .int x4)] [.long ((ls1 + xs0.toInt64) * (1009))] Q)) : wp SC 578 (d + 1) s 73 [(0, .ref a0), (1, .int x1), (4, .int x4)] [.int xs0, .long ls1] h Q := by
  refine wp_run 2 (pc' := 75) (lv' := [(0, .ref a0), (1, .int x1), (4, .int x4)]) (st' := [.long (ls1 + xs0.toInt64)]) rfl ?_
  refine wp_cst (pc' := 78) (v := .long (1009)) ⟨rfl, rfl⟩ rfl rfl rfl rfl rfl ?_
  refine wp_run 3 (pc' := 82) (lv' := [(0, .ref a0), (1, .int x1), (4, .int x4)]) (st' := [.int x4, .ref a0, .long ((ls1 + xs0.toInt64) * (1009))]) rfl ?_
  have eA : lv_args 0 (.ref a0 :: [.int x4].reverse) = [(0, .ref a0), (1, .int x4)] := by simp [lv_args, vc_i, vc_l, vc_r, vc_n, vc_a]
  refine wp_callV (ar := [.int x4]) (rest := [.long ((ls1 + xs0.toInt64) * (1009))]) (s1 := s1) (s2 := s2) (d' := d) ⟨rfl, rfl⟩ rfl (Or.inl rfl)  (by simp [re_cat, vc_i, vc_l, vc_r, vc_n, vc_a]) (by rw [show re_cat (.ref a0 :: [.int x4].reverse) = 2 from by simp [re_cat, vc_i, vc_l, vc_r, vc_n, vc_a]]; decide) (by decide) rfl eg ec rfl hs ?_
  rw [eA]
  exact wp_mono K (fun k v h' z => wp_ret_weak (re_sb_at rfl (re_sb_at rfl (re_sb_at rfl (re_sb_nil _)))) z)
set_option maxRecDepth 20000 in
theorem B578_85 {SC : List Value} {d s : Nat} {h : re_H} {Q : Nat → Value → re_H → Prop} {a0 : Nat} {x1 : Int32} {x4 : Int32} {xs0 : Int32} {ls1 : Int64}
    {c : Nat} {w : List Value} (eg : re_hg h a0 = some (c, w)) (ec : c = 0) {s1 s2 : Nat} (hs : s1 + s2 ≤ s) (K : wp SC 37 d s1 0 [(0, .ref a0), (1, .int x4)] [] h (wp_ret SC 578 (d + 1) s2 99 [(0, .ref a0), (1, .int x1), (4, .int x4)] [.long ((ls1 + xs0.toInt64) * (65537))] Q)) : wp SC 578 (d + 1) s 85 [(0, .ref a0), (1, .int x1), (4, .int x4)] [.int xs0, .long ls1] h Q := by
  refine wp_run 4 (pc' := 89) (lv' := [(2, .long (ls1 + xs0.toInt64)), (0, .ref a0), (1, .int x1), (4, .int x4)]) (st' := [.long (ls1 + xs0.toInt64)]) rfl ?_
  refine wp_cst (pc' := 92) (v := .long (65537)) ⟨rfl, rfl⟩ rfl rfl rfl rfl rfl ?_
  refine wp_run 3 (pc' := 96) (lv' := [(2, .long (ls1 + xs0.toInt64)), (0, .ref a0), (1, .int x1), (4, .int x4)]) (st' := [.int x4, .ref a0, .long ((ls1 + xs0.toInt64) * (65537))]) rfl ?_
  have eA : lv_args 0 (.ref a0 :: [.int x4].reverse) = [(0, .ref a0), (1, .int x4)] := by simp [lv_args, vc_i, vc_l, vc_r, vc_n, vc_a]
  refine wp_callV (ar := [.int x4]) (rest := [.long ((ls1 + xs0.toInt64) * (65537))]) (s1 := s1) (s2 := s2) (d' := d) ⟨rfl, rfl⟩ rfl (Or.inl rfl)  (by simp [re_cat, vc_i, vc_l, vc_r, vc_n, vc_a]) (by rw [show re_cat (.ref a0 :: [.int x4].reverse) = 2 from by simp [re_cat, vc_i, vc_l, vc_r, vc_n, vc_a]]; decide) (by decide) rfl eg ec rfl hs ?_
  rw [eA]
  exact wp_mono K (fun k v h' z => wp_ret_weak (re_sb_at rfl (re_sb_at rfl (re_sb_at rfl (re_sb_nil _)))) z)
set_option maxRecDepth 20000 in
theorem B578_99 {SC : List Value} {d s : Nat} {h : re_H} {Q : Nat → Value → re_H → Prop} {a0 : Nat} {x1 : Int32} {x4 : Int32} {xs0 : Int32} {ls1 : Int64}
    {c : Nat} {w : List Value} (eg : re_hg h a0 = some (c, w)) (ec : c = 0) {s1 s2 : Nat} (hs : s1 + s2 ≤ s) (K : wp SC 38 d s1 0 [(0, .ref a0), (1, .int x4)] [] h (wp_ret SC 578 (d + 1) s2 111 [(0, .ref a0), (1, .int x1), (4, .int x4)] [.long ((ls1 + xs0.toInt64) * (4099))] Q)) : wp SC 578 (d + 1) s 99 [(0, .ref a0), (1, .int x1), (4, .int x4)] [.int xs0, .long ls1] h Q := by
  refine wp_run 2 (pc' := 101) (lv' := [(0, .ref a0), (1, .int x1), (4, .int x4)]) (st' := [.long (ls1 + xs0.toInt64)]) rfl ?_
  refine wp_cst (pc' := 104) (v := .long (4099)) ⟨rfl, rfl⟩ rfl rfl rfl rfl rfl ?_
  refine wp_run 3 (pc' := 108) (lv' := [(0, .ref a0), (1, .int x1), (4, .int x4)]) (st' := [.int x4, .ref a0, .long ((ls1 + xs0.toInt64) * (4099))]) rfl ?_
  have eA : lv_args 0 (.ref a0 :: [.int x4].reverse) = [(0, .ref a0), (1, .int x4)] := by simp [lv_args, vc_i, vc_l, vc_r, vc_n, vc_a]
  refine wp_callV (ar := [.int x4]) (rest := [.long ((ls1 + xs0.toInt64) * (4099))]) (s1 := s1) (s2 := s2) (d' := d) ⟨rfl, rfl⟩ rfl (Or.inl rfl)  (by simp [re_cat, vc_i, vc_l, vc_r, vc_n, vc_a]) (by rw [show re_cat (.ref a0 :: [.int x4].reverse) = 2 from by simp [re_cat, vc_i, vc_l, vc_r, vc_n, vc_a]]; decide) (by decide) rfl eg ec rfl hs ?_
  rw [eA]
  exact wp_mono K (fun k v h' z => wp_ret_weak (re_sb_at rfl (re_sb_at rfl (re_sb_at rfl (re_sb_nil _)))) z)
set_option maxRecDepth 20000 in
theorem B578_111 {SC : List Value} {d s : Nat} {h : re_H} {Q : Nat → Value → re_H → Prop} {a0 : Nat} {x1 : Int32} {x4 : Int32} {xs0 : Int32} {ls1 : Int64}
    (K : wp SC 578 d s 117 [(0, .ref a0), (1, .int x1), (2, .long (ls1 + xs0.toInt64)), (4, .int x4), (5, .int (i32 0))] [] h Q) : wp SC 578 d s 111 [(0, .ref a0), (1, .int x1), (4, .int x4)] [.int xs0, .long ls1] h Q := by
  refine wp_run 5 (pc' := 117) (lv' := [(5, .int (i32 0)), (2, .long (ls1 + xs0.toInt64)), (0, .ref a0), (1, .int x1), (4, .int x4)]) (st' := []) rfl ?_
  exact wp_weak (re_sb_at rfl (re_sb_at rfl (re_sb_at rfl (re_sb_at rfl (re_sb_at rfl (re_sb_nil _)))))) K
set_option maxRecDepth 20000 in
theorem B578_117 {SC : List Value} {d s : Nat} {h : re_H} {Q : Nat → Value → re_H → Prop} {a0 : Nat} {x1 : Int32} {l2 : Int64} {x4 : Int32} {x5 : Int32}
    (K1 : ¬ x5 < (i32 6) → wp SC 578 d s 161 [(0, .ref a0), (1, .int x1), (2, .long l2), (4, .int x4)] [] h Q) (K2 : x5 < (i32 6) → wp SC 578 d s 124 [(0, .ref a0), (1, .int x1), (2, .long l2), (4, .int x4), (5, .int x5)] [] h Q) : wp SC 578 d s 117 [(0, .ref a0), (1, .int x1), (2, .long l2), (4, .int x4), (5, .int x5)] [] h Q := by
  refine wp_run 1 (pc' := 119) (lv' := [(0, .ref a0), (1, .int x1), (2, .long l2), (4, .int x4), (5, .int x5)]) (st' := [.int x5]) rfl ?_
  refine wp_bi (x := (i32 6)) ⟨rfl, rfl⟩ (by decide) ?_
  exact wp_cmp ⟨rfl, rfl⟩ rfl (fun hc => wp_weak (re_sb_at rfl (re_sb_at rfl (re_sb_at rfl (re_sb_at rfl (re_sb_nil _))))) (K1 (ic1_ge hc))) (fun hc => wp_weak (re_sb_at rfl (re_sb_at rfl (re_sb_at rfl (re_sb_at rfl (re_sb_at rfl (re_sb_nil _)))))) (K2 (ic0_ge hc)))
set_option maxRecDepth 20000 in
theorem B578_124 {SC : List Value} {d s : Nat} {h : re_H} {Q : Nat → Value → re_H → Prop} {a0 : Nat} {x1 : Int32} {l2 : Int64} {x4 : Int32} {x5 : Int32}
    {c : Nat} {w : List Value} (eg : re_hg h a0 = some (c, w)) (ec : c = 0) {s1 s2 : Nat} (hs : s1 + s2 ≤ s) (K : wp SC 33 d s1 0 [(0, .ref a0), (1, .int x4), (2, .int x5)] [] h (wp_ret SC 578 (d + 1) s2 137 [(0, .ref a0), (1, .int x1), (4, .int x4), (5, .int x5)] [.long (l2 * (3))] Q)) : wp SC 578 (d + 1) s 124 [(0, .ref a0), (1, .int x1), (2, .long l2), (4, .int x4), (5, .int x5)] [] h Q := by
  refine wp_run 1 (pc' := 125) (lv' := [(0, .ref a0), (1, .int x1), (2, .long l2), (4, .int x4), (5, .int x5)]) (st' := [.long l2]) rfl ?_
  refine wp_cst (pc' := 128) (v := .long (3)) ⟨rfl, rfl⟩ rfl rfl rfl rfl rfl ?_
  refine wp_run 4 (pc' := 134) (lv' := [(0, .ref a0), (1, .int x1), (2, .long l2), (4, .int x4), (5, .int x5)]) (st' := [.int x5, .int x4, .ref a0, .long (l2 * (3))]) rfl ?_
  have eA : lv_args 0 (.ref a0 :: [.int x5, .int x4].reverse) = [(0, .ref a0), (1, .int x4), (2, .int x5)] := by simp [lv_args, vc_i, vc_l, vc_r, vc_n, vc_a]
  refine wp_callV (ar := [.int x5, .int x4]) (rest := [.long (l2 * (3))]) (s1 := s1) (s2 := s2) (d' := d) ⟨rfl, rfl⟩ rfl (Or.inl rfl)  (by simp [re_cat, vc_i, vc_l, vc_r, vc_n, vc_a]) (by rw [show re_cat (.ref a0 :: [.int x5, .int x4].reverse) = 3 from by simp [re_cat, vc_i, vc_l, vc_r, vc_n, vc_a]]; decide) (by decide) rfl eg ec rfl hs ?_
  rw [eA]
  exact wp_mono K (fun k v h' z => wp_ret_weak (re_sb_at rfl (re_sb_at rfl (re_sb_at rfl (re_sb_at rfl (re_sb_nil _))))) z)
set_option maxRecDepth 20000 in
theorem B578_137 {SC : List Value} {d s : Nat} {h : re_H} {Q : Nat → Value → re_H → Prop} {a0 : Nat} {x1 : Int32} {x4 : Int32} {x5 : Int32} {xs0 : Int32} {ls1 : Int64}
    (K : wp SC 579 d 0 0 [(0, .ref a0), (1, .int (i32 24)), (2, .int x4), (3, .int x5)] [] h (wp_ret SC 578 (d + 1) s 153 [(0, .ref a0), (1, .int x1), (4, .int x4), (5, .int x5)] [.long ((ls1 + xs0.toInt64) * (1000003))] Q)) : wp SC 578 (d + 1) s 137 [(0, .ref a0), (1, .int x1), (4, .int x4), (5, .int x5)] [.int xs0, .long ls1] h Q := by
  refine wp_run 2 (pc' := 139) (lv' := [(0, .ref a0), (1, .int x1), (4, .int x4), (5, .int x5)]) (st' := [.long (ls1 + xs0.toInt64)]) rfl ?_
  refine wp_cst (pc' := 142) (v := .long (1000003)) ⟨rfl, rfl⟩ rfl rfl rfl rfl rfl ?_
  refine wp_run 2 (pc' := 144) (lv' := [(0, .ref a0), (1, .int x1), (4, .int x4), (5, .int x5)]) (st' := [.ref a0, .long ((ls1 + xs0.toInt64) * (1000003))]) rfl ?_
  refine wp_bi (x := (i32 24)) ⟨rfl, rfl⟩ (by decide) ?_
  refine wp_run 2 (pc' := 150) (lv' := [(0, .ref a0), (1, .int x1), (4, .int x4), (5, .int x5)]) (st' := [.int x5, .int x4, .int (i32 24), .ref a0, .long ((ls1 + xs0.toInt64) * (1000003))]) rfl ?_
  have eA : lv_args 0 ([.int x5, .int x4, .int (i32 24), .ref a0].reverse) = [(0, .ref a0), (1, .int (i32 24)), (2, .int x4), (3, .int x5)] := by simp [lv_args, vc_i, vc_l, vc_r, vc_n, vc_a]
  refine wp_callS (ar := [.int x5, .int x4, .int (i32 24), .ref a0]) (rest := [.long ((ls1 + xs0.toInt64) * (1000003))]) (s1 := 0) (s2 := s) (d' := d) ⟨rfl, rfl⟩ rfl (Or.inr (Or.inr rfl)) rfl (by simp [re_cat, vc_i, vc_l, vc_r, vc_n, vc_a]) (by rw [show re_cat ([.int x5, .int x4, .int (i32 24), .ref a0].reverse) = 4 from by simp [re_cat, vc_i, vc_l, vc_r, vc_n, vc_a]]; decide) (by decide) rfl rfl (Nat.le_of_eq (Nat.zero_add s)) ?_
  rw [eA]
  exact wp_mono K (fun k v h' z => wp_ret_weak (re_sb_at rfl (re_sb_at rfl (re_sb_at rfl (re_sb_at rfl (re_sb_nil _))))) z)
set_option maxRecDepth 20000 in
theorem B578_153 {SC : List Value} {d s : Nat} {h : re_H} {Q : Nat → Value → re_H → Prop} {a0 : Nat} {x1 : Int32} {x4 : Int32} {x5 : Int32} {ls0 : Int64} {ls1 : Int64}
    (K : wp SC 578 d s 117 [(0, .ref a0), (1, .int x1), (2, .long (ls1 + ls0)), (4, .int x4), (5, .int (x5 + (i32 1)))] [] h Q) : wp SC 578 d s 153 [(0, .ref a0), (1, .int x1), (4, .int x4), (5, .int x5)] [.long ls0, .long ls1] h Q := by
  refine wp_run 4 (pc' := 117) (lv' := [(5, .int (x5 + (i32 1))), (2, .long (ls1 + ls0)), (0, .ref a0), (1, .int x1), (4, .int x4)]) (st' := []) rfl ?_
  exact wp_weak (re_sb_at rfl (re_sb_at rfl (re_sb_at rfl (re_sb_at rfl (re_sb_at rfl (re_sb_nil _)))))) K
set_option maxRecDepth 20000 in
theorem B578_161 {SC : List Value} {d s : Nat} {h : re_H} {Q : Nat → Value → re_H → Prop} {a0 : Nat} {x1 : Int32} {l2 : Int64} {x4 : Int32}
    (K : wp SC 578 d s 7 [(0, .ref a0), (1, .int x1), (2, .long l2), (4, .int (x4 + (i32 1)))] [] h Q) : wp SC 578 d s 161 [(0, .ref a0), (1, .int x1), (2, .long l2), (4, .int x4)] [] h Q := by
  refine wp_run 2 (pc' := 7) (lv' := [(4, .int (x4 + (i32 1))), (0, .ref a0), (1, .int x1), (2, .long l2)]) (st' := []) rfl ?_
  exact wp_weak (re_sb_at rfl (re_sb_at rfl (re_sb_at rfl (re_sb_at rfl (re_sb_nil _))))) K
set_option maxRecDepth 20000 in
theorem B578_167 {SC : List Value} {d s : Nat} {h : re_H} {Q : Nat → Value → re_H → Prop} {l2 : Int64}
    (K : Q 2 (.long l2) h) : wp SC 578 d s 167 [(2, .long l2)] [] h Q := by
  refine wp_run 1 (pc' := 168) (lv' := [(2, .long l2)]) (st' := [.long l2]) rfl ?_
  exact wp_retl ⟨rfl, rfl⟩ rfl K
theorem B579_7 {SC : List Value} {d s : Nat} {h : re_H} {Q : Nat → Value → re_H → Prop} {ls0 : Int64}
    (K : Q 2 (.long ls0) h) : wp SC 579 d s 7 [] [.long ls0] h Q := by
  exact wp_retl ⟨rfl, rfl⟩ rfl K
theorem B579_10 {SC : List Value} {d s : Nat} {h : re_H} {Q : Nat → Value → re_H → Prop} 
    (K : Q 2 (.long (-2000000001)) h) : wp SC 579 d s 10 [] [] h Q := by
  refine wp_cst (pc' := 13) (v := .long (-2000000001)) ⟨rfl, rfl⟩ rfl rfl rfl rfl rfl ?_
  exact wp_retl ⟨rfl, rfl⟩ rfl K
theorem B579_16 {SC : List Value} {d s : Nat} {h : re_H} {Q : Nat → Value → re_H → Prop} 
    (K : Q 2 (.long (-2000000002)) h) : wp SC 579 d s 16 [] [] h Q := by
  refine wp_cst (pc' := 19) (v := .long (-2000000002)) ⟨rfl, rfl⟩ rfl rfl rfl rfl rfl ?_
  exact wp_retl ⟨rfl, rfl⟩ rfl K
theorem B579_22 {SC : List Value} {d s : Nat} {h : re_H} {Q : Nat → Value → re_H → Prop} 
    (K : Q 2 (.long (-2000000003)) h) : wp SC 579 d s 22 [] [] h Q := by
  refine wp_cst (pc' := 25) (v := .long (-2000000003)) ⟨rfl, rfl⟩ rfl rfl rfl rfl rfl ?_
  exact wp_retl ⟨rfl, rfl⟩ rfl K
set_option maxRecDepth 20000 in
theorem B580_0 {SC : List Value} {d s : Nat} {h : re_H} {Q : Nat → Value → re_H → Prop} {a0 : Nat} {x1 : Int32} {x2 : Int32} {x3 : Int32}
    (hx : x1.toInt < 0 ∨ 28 < x1.toInt) (K : wp SC 580 d s 351 [(0, .ref a0), (2, .int x2)] [] h Q) : wp SC 580 d s 0 [(0, .ref a0), (1, .int x1), (2, .int x2), (3, .int x3)] [] h Q := by
  refine wp_run 1 (pc' := 1) (lv' := [(0, .ref a0), (1, .int x1), (2, .int x2), (3, .int x3)]) (st' := [.int x1]) rfl ?_
  exact wp_tsd ⟨rfl, rfl⟩ rfl hx (wp_weak (re_sb_at rfl (re_sb_at rfl (re_sb_nil _))) K)
set_option maxRecDepth 20000 in
theorem B580_0_0 {SC : List Value} {d s : Nat} {h : re_H} {Q : Nat → Value → re_H → Prop} {a0 : Nat} {x2 : Int32} {x3 : Int32}
    (K : wp SC 580 d s 132 [(0, .ref a0), (2, .int x2)] [] h Q) : wp SC 580 d s 0 [(0, .ref a0), (1, .int (i32 0)), (2, .int x2), (3, .int x3)] [] h Q := by
  refine wp_run 1 (pc' := 1) (lv' := [(0, .ref a0), (1, .int (i32 0)), (2, .int x2), (3, .int x3)]) (st' := [.int (i32 0)]) rfl ?_
  exact wp_pure (pc' := 132) (lv' := [(0, .ref a0), (1, .int (i32 0)), (2, .int x2), (3, .int x3)]) (st' := []) ⟨rfl, rfl⟩ rfl (wp_weak (re_sb_at rfl (re_sb_at rfl (re_sb_nil _))) K)
set_option maxRecDepth 20000 in
theorem B580_0_1 {SC : List Value} {d s : Nat} {h : re_H} {Q : Nat → Value → re_H → Prop} {a0 : Nat} {x2 : Int32} {x3 : Int32}
    (K : wp SC 580 d s 140 [(0, .ref a0), (2, .int x2)] [] h Q) : wp SC 580 d s 0 [(0, .ref a0), (1, .int (i32 1)), (2, .int x2), (3, .int x3)] [] h Q := by
  refine wp_run 1 (pc' := 1) (lv' := [(0, .ref a0), (1, .int (i32 1)), (2, .int x2), (3, .int x3)]) (st' := [.int (i32 1)]) rfl ?_
  exact wp_pure (pc' := 140) (lv' := [(0, .ref a0), (1, .int (i32 1)), (2, .int x2), (3, .int x3)]) (st' := []) ⟨rfl, rfl⟩ rfl (wp_weak (re_sb_at rfl (re_sb_at rfl (re_sb_nil _))) K)
set_option maxRecDepth 20000 in
theorem B580_0_2 {SC : List Value} {d s : Nat} {h : re_H} {Q : Nat → Value → re_H → Prop} {a0 : Nat} {x2 : Int32} {x3 : Int32}
    (K : wp SC 580 d s 147 [(0, .ref a0), (2, .int x2)] [] h Q) : wp SC 580 d s 0 [(0, .ref a0), (1, .int (i32 2)), (2, .int x2), (3, .int x3)] [] h Q := by
  refine wp_run 1 (pc' := 1) (lv' := [(0, .ref a0), (1, .int (i32 2)), (2, .int x2), (3, .int x3)]) (st' := [.int (i32 2)]) rfl ?_
  exact wp_pure (pc' := 147) (lv' := [(0, .ref a0), (1, .int (i32 2)), (2, .int x2), (3, .int x3)]) (st' := []) ⟨rfl, rfl⟩ rfl (wp_weak (re_sb_at rfl (re_sb_at rfl (re_sb_nil _))) K)
set_option maxRecDepth 20000 in
theorem B580_0_3 {SC : List Value} {d s : Nat} {h : re_H} {Q : Nat → Value → re_H → Prop} {a0 : Nat} {x2 : Int32} {x3 : Int32}
    (K : wp SC 580 d s 154 [(0, .ref a0)] [] h Q) : wp SC 580 d s 0 [(0, .ref a0), (1, .int (i32 3)), (2, .int x2), (3, .int x3)] [] h Q := by
  refine wp_run 1 (pc' := 1) (lv' := [(0, .ref a0), (1, .int (i32 3)), (2, .int x2), (3, .int x3)]) (st' := [.int (i32 3)]) rfl ?_
  exact wp_pure (pc' := 154) (lv' := [(0, .ref a0), (1, .int (i32 3)), (2, .int x2), (3, .int x3)]) (st' := []) ⟨rfl, rfl⟩ rfl (wp_weak (re_sb_at rfl (re_sb_nil _)) K)
set_option maxRecDepth 20000 in
theorem B580_0_4 {SC : List Value} {d s : Nat} {h : re_H} {Q : Nat → Value → re_H → Prop} {a0 : Nat} {x2 : Int32} {x3 : Int32}
    (K : wp SC 580 d s 160 [(0, .ref a0), (2, .int x2)] [] h Q) : wp SC 580 d s 0 [(0, .ref a0), (1, .int (i32 4)), (2, .int x2), (3, .int x3)] [] h Q := by
  refine wp_run 1 (pc' := 1) (lv' := [(0, .ref a0), (1, .int (i32 4)), (2, .int x2), (3, .int x3)]) (st' := [.int (i32 4)]) rfl ?_
  exact wp_pure (pc' := 160) (lv' := [(0, .ref a0), (1, .int (i32 4)), (2, .int x2), (3, .int x3)]) (st' := []) ⟨rfl, rfl⟩ rfl (wp_weak (re_sb_at rfl (re_sb_at rfl (re_sb_nil _))) K)
set_option maxRecDepth 20000 in
theorem B580_0_5 {SC : List Value} {d s : Nat} {h : re_H} {Q : Nat → Value → re_H → Prop} {a0 : Nat} {x2 : Int32} {x3 : Int32}
    (K : wp SC 580 d s 167 [(0, .ref a0)] [] h Q) : wp SC 580 d s 0 [(0, .ref a0), (1, .int (i32 5)), (2, .int x2), (3, .int x3)] [] h Q := by
  refine wp_run 1 (pc' := 1) (lv' := [(0, .ref a0), (1, .int (i32 5)), (2, .int x2), (3, .int x3)]) (st' := [.int (i32 5)]) rfl ?_
  exact wp_pure (pc' := 167) (lv' := [(0, .ref a0), (1, .int (i32 5)), (2, .int x2), (3, .int x3)]) (st' := []) ⟨rfl, rfl⟩ rfl (wp_weak (re_sb_at rfl (re_sb_nil _)) K)
set_option maxRecDepth 20000 in
theorem B580_0_6 {SC : List Value} {d s : Nat} {h : re_H} {Q : Nat → Value → re_H → Prop} {a0 : Nat} {x2 : Int32} {x3 : Int32}
    (K : wp SC 580 d s 173 [(0, .ref a0), (2, .int x2)] [] h Q) : wp SC 580 d s 0 [(0, .ref a0), (1, .int (i32 6)), (2, .int x2), (3, .int x3)] [] h Q := by
  refine wp_run 1 (pc' := 1) (lv' := [(0, .ref a0), (1, .int (i32 6)), (2, .int x2), (3, .int x3)]) (st' := [.int (i32 6)]) rfl ?_
  exact wp_pure (pc' := 173) (lv' := [(0, .ref a0), (1, .int (i32 6)), (2, .int x2), (3, .int x3)]) (st' := []) ⟨rfl, rfl⟩ rfl (wp_weak (re_sb_at rfl (re_sb_at rfl (re_sb_nil _))) K)
set_option maxRecDepth 20000 in
theorem B580_0_7 {SC : List Value} {d s : Nat} {h : re_H} {Q : Nat → Value → re_H → Prop} {a0 : Nat} {x2 : Int32} {x3 : Int32}
    (K : wp SC 580 d s 180 [(0, .ref a0), (2, .int x2)] [] h Q) : wp SC 580 d s 0 [(0, .ref a0), (1, .int (i32 7)), (2, .int x2), (3, .int x3)] [] h Q := by
  refine wp_run 1 (pc' := 1) (lv' := [(0, .ref a0), (1, .int (i32 7)), (2, .int x2), (3, .int x3)]) (st' := [.int (i32 7)]) rfl ?_
  exact wp_pure (pc' := 180) (lv' := [(0, .ref a0), (1, .int (i32 7)), (2, .int x2), (3, .int x3)]) (st' := []) ⟨rfl, rfl⟩ rfl (wp_weak (re_sb_at rfl (re_sb_at rfl (re_sb_nil _))) K)
set_option maxRecDepth 20000 in
theorem B580_0_8 {SC : List Value} {d s : Nat} {h : re_H} {Q : Nat → Value → re_H → Prop} {a0 : Nat} {x2 : Int32} {x3 : Int32}
    (K : wp SC 580 d s 187 [(0, .ref a0)] [] h Q) : wp SC 580 d s 0 [(0, .ref a0), (1, .int (i32 8)), (2, .int x2), (3, .int x3)] [] h Q := by
  refine wp_run 1 (pc' := 1) (lv' := [(0, .ref a0), (1, .int (i32 8)), (2, .int x2), (3, .int x3)]) (st' := [.int (i32 8)]) rfl ?_
  exact wp_pure (pc' := 187) (lv' := [(0, .ref a0), (1, .int (i32 8)), (2, .int x2), (3, .int x3)]) (st' := []) ⟨rfl, rfl⟩ rfl (wp_weak (re_sb_at rfl (re_sb_nil _)) K)
set_option maxRecDepth 20000 in
theorem B580_0_9 {SC : List Value} {d s : Nat} {h : re_H} {Q : Nat → Value → re_H → Prop} {a0 : Nat} {x2 : Int32} {x3 : Int32}
    (K : wp SC 580 d s 193 [(0, .ref a0)] [] h Q) : wp SC 580 d s 0 [(0, .ref a0), (1, .int (i32 9)), (2, .int x2), (3, .int x3)] [] h Q := by
  refine wp_run 1 (pc' := 1) (lv' := [(0, .ref a0), (1, .int (i32 9)), (2, .int x2), (3, .int x3)]) (st' := [.int (i32 9)]) rfl ?_
  exact wp_pure (pc' := 193) (lv' := [(0, .ref a0), (1, .int (i32 9)), (2, .int x2), (3, .int x3)]) (st' := []) ⟨rfl, rfl⟩ rfl (wp_weak (re_sb_at rfl (re_sb_nil _)) K)
set_option maxRecDepth 20000 in
theorem B580_0_10 {SC : List Value} {d s : Nat} {h : re_H} {Q : Nat → Value → re_H → Prop} {a0 : Nat} {x2 : Int32} {x3 : Int32}
    (K : wp SC 580 d s 199 [(0, .ref a0), (2, .int x2), (3, .int x3)] [] h Q) : wp SC 580 d s 0 [(0, .ref a0), (1, .int (i32 10)), (2, .int x2), (3, .int x3)] [] h Q := by
  refine wp_run 1 (pc' := 1) (lv' := [(0, .ref a0), (1, .int (i32 10)), (2, .int x2), (3, .int x3)]) (st' := [.int (i32 10)]) rfl ?_
  exact wp_pure (pc' := 199) (lv' := [(0, .ref a0), (1, .int (i32 10)), (2, .int x2), (3, .int x3)]) (st' := []) ⟨rfl, rfl⟩ rfl (wp_weak (re_sb_at rfl (re_sb_at rfl (re_sb_at rfl (re_sb_nil _)))) K)
set_option maxRecDepth 20000 in
theorem B580_0_11 {SC : List Value} {d s : Nat} {h : re_H} {Q : Nat → Value → re_H → Prop} {a0 : Nat} {x2 : Int32} {x3 : Int32}
    (K : wp SC 580 d s 207 [(0, .ref a0), (2, .int x2), (3, .int x3)] [] h Q) : wp SC 580 d s 0 [(0, .ref a0), (1, .int (i32 11)), (2, .int x2), (3, .int x3)] [] h Q := by
  refine wp_run 1 (pc' := 1) (lv' := [(0, .ref a0), (1, .int (i32 11)), (2, .int x2), (3, .int x3)]) (st' := [.int (i32 11)]) rfl ?_
  exact wp_pure (pc' := 207) (lv' := [(0, .ref a0), (1, .int (i32 11)), (2, .int x2), (3, .int x3)]) (st' := []) ⟨rfl, rfl⟩ rfl (wp_weak (re_sb_at rfl (re_sb_at rfl (re_sb_at rfl (re_sb_nil _)))) K)
set_option maxRecDepth 20000 in
theorem B580_0_12 {SC : List Value} {d s : Nat} {h : re_H} {Q : Nat → Value → re_H → Prop} {a0 : Nat} {x2 : Int32} {x3 : Int32}
    (K : wp SC 580 d s 215 [(0, .ref a0), (2, .int x2)] [] h Q) : wp SC 580 d s 0 [(0, .ref a0), (1, .int (i32 12)), (2, .int x2), (3, .int x3)] [] h Q := by
  refine wp_run 1 (pc' := 1) (lv' := [(0, .ref a0), (1, .int (i32 12)), (2, .int x2), (3, .int x3)]) (st' := [.int (i32 12)]) rfl ?_
  exact wp_pure (pc' := 215) (lv' := [(0, .ref a0), (1, .int (i32 12)), (2, .int x2), (3, .int x3)]) (st' := []) ⟨rfl, rfl⟩ rfl (wp_weak (re_sb_at rfl (re_sb_at rfl (re_sb_nil _))) K)
set_option maxRecDepth 20000 in
theorem B580_0_13 {SC : List Value} {d s : Nat} {h : re_H} {Q : Nat → Value → re_H → Prop} {a0 : Nat} {x2 : Int32} {x3 : Int32}
    (K : wp SC 580 d s 222 [(0, .ref a0), (2, .int x2), (3, .int x3)] [] h Q) : wp SC 580 d s 0 [(0, .ref a0), (1, .int (i32 13)), (2, .int x2), (3, .int x3)] [] h Q := by
  refine wp_run 1 (pc' := 1) (lv' := [(0, .ref a0), (1, .int (i32 13)), (2, .int x2), (3, .int x3)]) (st' := [.int (i32 13)]) rfl ?_
  exact wp_pure (pc' := 222) (lv' := [(0, .ref a0), (1, .int (i32 13)), (2, .int x2), (3, .int x3)]) (st' := []) ⟨rfl, rfl⟩ rfl (wp_weak (re_sb_at rfl (re_sb_at rfl (re_sb_at rfl (re_sb_nil _)))) K)
set_option maxRecDepth 20000 in
theorem B580_0_14 {SC : List Value} {d s : Nat} {h : re_H} {Q : Nat → Value → re_H → Prop} {a0 : Nat} {x2 : Int32} {x3 : Int32}
    (K : wp SC 580 d s 230 [(0, .ref a0), (2, .int x2), (3, .int x3)] [] h Q) : wp SC 580 d s 0 [(0, .ref a0), (1, .int (i32 14)), (2, .int x2), (3, .int x3)] [] h Q := by
  refine wp_run 1 (pc' := 1) (lv' := [(0, .ref a0), (1, .int (i32 14)), (2, .int x2), (3, .int x3)]) (st' := [.int (i32 14)]) rfl ?_
  exact wp_pure (pc' := 230) (lv' := [(0, .ref a0), (1, .int (i32 14)), (2, .int x2), (3, .int x3)]) (st' := []) ⟨rfl, rfl⟩ rfl (wp_weak (re_sb_at rfl (re_sb_at rfl (re_sb_at rfl (re_sb_nil _)))) K)
set_option maxRecDepth 20000 in
theorem B580_0_15 {SC : List Value} {d s : Nat} {h : re_H} {Q : Nat → Value → re_H → Prop} {a0 : Nat} {x2 : Int32} {x3 : Int32}
    (K : wp SC 580 d s 238 [(0, .ref a0), (2, .int x2)] [] h Q) : wp SC 580 d s 0 [(0, .ref a0), (1, .int (i32 15)), (2, .int x2), (3, .int x3)] [] h Q := by
  refine wp_run 1 (pc' := 1) (lv' := [(0, .ref a0), (1, .int (i32 15)), (2, .int x2), (3, .int x3)]) (st' := [.int (i32 15)]) rfl ?_
  exact wp_pure (pc' := 238) (lv' := [(0, .ref a0), (1, .int (i32 15)), (2, .int x2), (3, .int x3)]) (st' := []) ⟨rfl, rfl⟩ rfl (wp_weak (re_sb_at rfl (re_sb_at rfl (re_sb_nil _))) K)
set_option maxRecDepth 20000 in
theorem B580_0_16 {SC : List Value} {d s : Nat} {h : re_H} {Q : Nat → Value → re_H → Prop} {a0 : Nat} {x2 : Int32} {x3 : Int32}
    (K : wp SC 580 d s 245 [(0, .ref a0), (2, .int x2)] [] h Q) : wp SC 580 d s 0 [(0, .ref a0), (1, .int (i32 16)), (2, .int x2), (3, .int x3)] [] h Q := by
  refine wp_run 1 (pc' := 1) (lv' := [(0, .ref a0), (1, .int (i32 16)), (2, .int x2), (3, .int x3)]) (st' := [.int (i32 16)]) rfl ?_
  exact wp_pure (pc' := 245) (lv' := [(0, .ref a0), (1, .int (i32 16)), (2, .int x2), (3, .int x3)]) (st' := []) ⟨rfl, rfl⟩ rfl (wp_weak (re_sb_at rfl (re_sb_at rfl (re_sb_nil _))) K)
set_option maxRecDepth 20000 in
theorem B580_0_17 {SC : List Value} {d s : Nat} {h : re_H} {Q : Nat → Value → re_H → Prop} {a0 : Nat} {x2 : Int32} {x3 : Int32}
    (K : wp SC 580 d s 252 [(0, .ref a0), (2, .int x2)] [] h Q) : wp SC 580 d s 0 [(0, .ref a0), (1, .int (i32 17)), (2, .int x2), (3, .int x3)] [] h Q := by
  refine wp_run 1 (pc' := 1) (lv' := [(0, .ref a0), (1, .int (i32 17)), (2, .int x2), (3, .int x3)]) (st' := [.int (i32 17)]) rfl ?_
  exact wp_pure (pc' := 252) (lv' := [(0, .ref a0), (1, .int (i32 17)), (2, .int x2), (3, .int x3)]) (st' := []) ⟨rfl, rfl⟩ rfl (wp_weak (re_sb_at rfl (re_sb_at rfl (re_sb_nil _))) K)
set_option maxRecDepth 20000 in
theorem B580_0_18 {SC : List Value} {d s : Nat} {h : re_H} {Q : Nat → Value → re_H → Prop} {a0 : Nat} {x2 : Int32} {x3 : Int32}
    (K : wp SC 580 d s 259 [(0, .ref a0)] [] h Q) : wp SC 580 d s 0 [(0, .ref a0), (1, .int (i32 18)), (2, .int x2), (3, .int x3)] [] h Q := by
  refine wp_run 1 (pc' := 1) (lv' := [(0, .ref a0), (1, .int (i32 18)), (2, .int x2), (3, .int x3)]) (st' := [.int (i32 18)]) rfl ?_
  exact wp_pure (pc' := 259) (lv' := [(0, .ref a0), (1, .int (i32 18)), (2, .int x2), (3, .int x3)]) (st' := []) ⟨rfl, rfl⟩ rfl (wp_weak (re_sb_at rfl (re_sb_nil _)) K)
set_option maxRecDepth 20000 in
theorem B580_0_19 {SC : List Value} {d s : Nat} {h : re_H} {Q : Nat → Value → re_H → Prop} {a0 : Nat} {x2 : Int32} {x3 : Int32}
    (K : wp SC 580 d s 265 [(0, .ref a0), (2, .int x2), (3, .int x3)] [] h Q) : wp SC 580 d s 0 [(0, .ref a0), (1, .int (i32 19)), (2, .int x2), (3, .int x3)] [] h Q := by
  refine wp_run 1 (pc' := 1) (lv' := [(0, .ref a0), (1, .int (i32 19)), (2, .int x2), (3, .int x3)]) (st' := [.int (i32 19)]) rfl ?_
  exact wp_pure (pc' := 265) (lv' := [(0, .ref a0), (1, .int (i32 19)), (2, .int x2), (3, .int x3)]) (st' := []) ⟨rfl, rfl⟩ rfl (wp_weak (re_sb_at rfl (re_sb_at rfl (re_sb_at rfl (re_sb_nil _)))) K)
set_option maxRecDepth 20000 in
theorem B580_0_20 {SC : List Value} {d s : Nat} {h : re_H} {Q : Nat → Value → re_H → Prop} {a0 : Nat} {x2 : Int32} {x3 : Int32}
    (K : wp SC 580 d s 280 [(0, .ref a0), (2, .int x2)] [] h Q) : wp SC 580 d s 0 [(0, .ref a0), (1, .int (i32 20)), (2, .int x2), (3, .int x3)] [] h Q := by
  refine wp_run 1 (pc' := 1) (lv' := [(0, .ref a0), (1, .int (i32 20)), (2, .int x2), (3, .int x3)]) (st' := [.int (i32 20)]) rfl ?_
  exact wp_pure (pc' := 280) (lv' := [(0, .ref a0), (1, .int (i32 20)), (2, .int x2), (3, .int x3)]) (st' := []) ⟨rfl, rfl⟩ rfl (wp_weak (re_sb_at rfl (re_sb_at rfl (re_sb_nil _))) K)
set_option maxRecDepth 20000 in
theorem B580_0_21 {SC : List Value} {d s : Nat} {h : re_H} {Q : Nat → Value → re_H → Prop} {a0 : Nat} {x2 : Int32} {x3 : Int32}
    (K : wp SC 580 d s 287 [(0, .ref a0), (2, .int x2)] [] h Q) : wp SC 580 d s 0 [(0, .ref a0), (1, .int (i32 21)), (2, .int x2), (3, .int x3)] [] h Q := by
  refine wp_run 1 (pc' := 1) (lv' := [(0, .ref a0), (1, .int (i32 21)), (2, .int x2), (3, .int x3)]) (st' := [.int (i32 21)]) rfl ?_
  exact wp_pure (pc' := 287) (lv' := [(0, .ref a0), (1, .int (i32 21)), (2, .int x2), (3, .int x3)]) (st' := []) ⟨rfl, rfl⟩ rfl (wp_weak (re_sb_at rfl (re_sb_at rfl (re_sb_nil _))) K)
set_option maxRecDepth 20000 in
theorem B580_0_22 {SC : List Value} {d s : Nat} {h : re_H} {Q : Nat → Value → re_H → Prop} {a0 : Nat} {x2 : Int32} {x3 : Int32}
    (K : wp SC 580 d s 294 [(0, .ref a0), (2, .int x2)] [] h Q) : wp SC 580 d s 0 [(0, .ref a0), (1, .int (i32 22)), (2, .int x2), (3, .int x3)] [] h Q := by
  refine wp_run 1 (pc' := 1) (lv' := [(0, .ref a0), (1, .int (i32 22)), (2, .int x2), (3, .int x3)]) (st' := [.int (i32 22)]) rfl ?_
  exact wp_pure (pc' := 294) (lv' := [(0, .ref a0), (1, .int (i32 22)), (2, .int x2), (3, .int x3)]) (st' := []) ⟨rfl, rfl⟩ rfl (wp_weak (re_sb_at rfl (re_sb_at rfl (re_sb_nil _))) K)
set_option maxRecDepth 20000 in
theorem B580_0_23 {SC : List Value} {d s : Nat} {h : re_H} {Q : Nat → Value → re_H → Prop} {a0 : Nat} {x2 : Int32} {x3 : Int32}
    (K : wp SC 580 d s 308 [(0, .ref a0), (2, .int x2), (3, .int x3)] [] h Q) : wp SC 580 d s 0 [(0, .ref a0), (1, .int (i32 23)), (2, .int x2), (3, .int x3)] [] h Q := by
  refine wp_run 1 (pc' := 1) (lv' := [(0, .ref a0), (1, .int (i32 23)), (2, .int x2), (3, .int x3)]) (st' := [.int (i32 23)]) rfl ?_
  exact wp_pure (pc' := 308) (lv' := [(0, .ref a0), (1, .int (i32 23)), (2, .int x2), (3, .int x3)]) (st' := []) ⟨rfl, rfl⟩ rfl (wp_weak (re_sb_at rfl (re_sb_at rfl (re_sb_at rfl (re_sb_nil _)))) K)
set_option maxRecDepth 20000 in
theorem B580_0_24 {SC : List Value} {d s : Nat} {h : re_H} {Q : Nat → Value → re_H → Prop} {a0 : Nat} {x2 : Int32} {x3 : Int32}
    (K : wp SC 580 d s 316 [(0, .ref a0), (2, .int x2), (3, .int x3)] [] h Q) : wp SC 580 d s 0 [(0, .ref a0), (1, .int (i32 24)), (2, .int x2), (3, .int x3)] [] h Q := by
  refine wp_run 1 (pc' := 1) (lv' := [(0, .ref a0), (1, .int (i32 24)), (2, .int x2), (3, .int x3)]) (st' := [.int (i32 24)]) rfl ?_
  exact wp_pure (pc' := 316) (lv' := [(0, .ref a0), (1, .int (i32 24)), (2, .int x2), (3, .int x3)]) (st' := []) ⟨rfl, rfl⟩ rfl (wp_weak (re_sb_at rfl (re_sb_at rfl (re_sb_at rfl (re_sb_nil _)))) K)
set_option maxRecDepth 20000 in
theorem B580_0_25 {SC : List Value} {d s : Nat} {h : re_H} {Q : Nat → Value → re_H → Prop} {a0 : Nat} {x2 : Int32} {x3 : Int32}
    (K : wp SC 580 d s 323 [(0, .ref a0), (2, .int x2), (3, .int x3)] [] h Q) : wp SC 580 d s 0 [(0, .ref a0), (1, .int (i32 25)), (2, .int x2), (3, .int x3)] [] h Q := by
  refine wp_run 1 (pc' := 1) (lv' := [(0, .ref a0), (1, .int (i32 25)), (2, .int x2), (3, .int x3)]) (st' := [.int (i32 25)]) rfl ?_
  exact wp_pure (pc' := 323) (lv' := [(0, .ref a0), (1, .int (i32 25)), (2, .int x2), (3, .int x3)]) (st' := []) ⟨rfl, rfl⟩ rfl (wp_weak (re_sb_at rfl (re_sb_at rfl (re_sb_at rfl (re_sb_nil _)))) K)
set_option maxRecDepth 20000 in
theorem B580_0_26 {SC : List Value} {d s : Nat} {h : re_H} {Q : Nat → Value → re_H → Prop} {a0 : Nat} {x2 : Int32} {x3 : Int32}
    (K : wp SC 580 d s 330 [(0, .ref a0), (2, .int x2)] [] h Q) : wp SC 580 d s 0 [(0, .ref a0), (1, .int (i32 26)), (2, .int x2), (3, .int x3)] [] h Q := by
  refine wp_run 1 (pc' := 1) (lv' := [(0, .ref a0), (1, .int (i32 26)), (2, .int x2), (3, .int x3)]) (st' := [.int (i32 26)]) rfl ?_
  exact wp_pure (pc' := 330) (lv' := [(0, .ref a0), (1, .int (i32 26)), (2, .int x2), (3, .int x3)]) (st' := []) ⟨rfl, rfl⟩ rfl (wp_weak (re_sb_at rfl (re_sb_at rfl (re_sb_nil _))) K)
set_option maxRecDepth 20000 in
theorem B580_0_27 {SC : List Value} {d s : Nat} {h : re_H} {Q : Nat → Value → re_H → Prop} {a0 : Nat} {x2 : Int32} {x3 : Int32}
    (K : wp SC 580 d s 337 [(0, .ref a0), (2, .int x2)] [] h Q) : wp SC 580 d s 0 [(0, .ref a0), (1, .int (i32 27)), (2, .int x2), (3, .int x3)] [] h Q := by
  refine wp_run 1 (pc' := 1) (lv' := [(0, .ref a0), (1, .int (i32 27)), (2, .int x2), (3, .int x3)]) (st' := [.int (i32 27)]) rfl ?_
  exact wp_pure (pc' := 337) (lv' := [(0, .ref a0), (1, .int (i32 27)), (2, .int x2), (3, .int x3)]) (st' := []) ⟨rfl, rfl⟩ rfl (wp_weak (re_sb_at rfl (re_sb_at rfl (re_sb_nil _))) K)
set_option maxRecDepth 20000 in
theorem B580_0_28 {SC : List Value} {d s : Nat} {h : re_H} {Q : Nat → Value → re_H → Prop} {a0 : Nat} {x2 : Int32} {x3 : Int32}
    (K : wp SC 580 d s 344 [(0, .ref a0), (2, .int x2)] [] h Q) : wp SC 580 d s 0 [(0, .ref a0), (1, .int (i32 28)), (2, .int x2), (3, .int x3)] [] h Q := by
  refine wp_run 1 (pc' := 1) (lv' := [(0, .ref a0), (1, .int (i32 28)), (2, .int x2), (3, .int x3)]) (st' := [.int (i32 28)]) rfl ?_
  exact wp_pure (pc' := 344) (lv' := [(0, .ref a0), (1, .int (i32 28)), (2, .int x2), (3, .int x3)]) (st' := []) ⟨rfl, rfl⟩ rfl (wp_weak (re_sb_at rfl (re_sb_at rfl (re_sb_nil _))) K)
set_option maxRecDepth 20000 in
theorem B580_132 {SC : List Value} {d s : Nat} {h : re_H} {Q : Nat → Value → re_H → Prop} {a0 : Nat} {x2 : Int32}
    {c : Nat} {w : List Value} (eg : re_hg h a0 = some (c, w)) (ec : c = 0) {s1 s2 : Nat} (hs : s1 + s2 ≤ s) (K : wp SC 1 d s1 0 [(0, .ref a0), (1, .long x2.toInt64)] [] h (wp_ret SC 580 (d + 1) s2 138 [] [] Q)) : wp SC 580 (d + 1) s 132 [(0, .ref a0), (2, .int x2)] [] h Q := by
  refine wp_run 3 (pc' := 135) (lv' := [(0, .ref a0), (2, .int x2)]) (st' := [.long x2.toInt64, .ref a0]) rfl ?_
  have eA : lv_args 0 (.ref a0 :: [.long x2.toInt64].reverse) = [(0, .ref a0), (1, .long x2.toInt64)] := by simp [lv_args, vc_i, vc_l, vc_r, vc_n, vc_a]
  refine wp_callV (ar := [.long x2.toInt64]) (rest := []) (s1 := s1) (s2 := s2) (d' := d) ⟨rfl, rfl⟩ rfl (Or.inl rfl)  (by simp [re_cat, vc_i, vc_l, vc_r, vc_n, vc_a]) (by rw [show re_cat (.ref a0 :: [.long x2.toInt64].reverse) = 3 from by simp [re_cat, vc_i, vc_l, vc_r, vc_n, vc_a]]; decide) (by decide) rfl eg ec rfl hs ?_
  rw [eA]
  exact wp_mono K (fun k v h' z => wp_ret_weak (re_sb_nil _) z)
set_option maxRecDepth 20000 in
theorem B580_138 {SC : List Value} {d s : Nat} {h : re_H} {Q : Nat → Value → re_H → Prop} {xs0 : Int32}
    (K : Q 2 (.long xs0.toInt64) h) : wp SC 580 d s 138 [] [.int xs0] h Q := by
  refine wp_run 1 (pc' := 139) (lv' := []) (st' := [.long xs0.toInt64]) rfl ?_
  exact wp_retl ⟨rfl, rfl⟩ rfl K
set_option maxRecDepth 20000 in
theorem B580_140 {SC : List Value} {d s : Nat} {h : re_H} {Q : Nat → Value → re_H → Prop} {a0 : Nat} {x2 : Int32}
    {c : Nat} {w : List Value} (eg : re_hg h a0 = some (c, w)) (ec : c = 0) {s1 s2 : Nat} (hs : s1 + s2 ≤ s) (K : wp SC 4 d s1 0 [(0, .ref a0), (1, .int x2)] [] h (wp_ret SC 580 (d + 1) s2 145 [] [] Q)) : wp SC 580 (d + 1) s 140 [(0, .ref a0), (2, .int x2)] [] h Q := by
  refine wp_run 2 (pc' := 142) (lv' := [(0, .ref a0), (2, .int x2)]) (st' := [.int x2, .ref a0]) rfl ?_
  have eA : lv_args 0 (.ref a0 :: [.int x2].reverse) = [(0, .ref a0), (1, .int x2)] := by simp [lv_args, vc_i, vc_l, vc_r, vc_n, vc_a]
  refine wp_callV (ar := [.int x2]) (rest := []) (s1 := s1) (s2 := s2) (d' := d) ⟨rfl, rfl⟩ rfl (Or.inl rfl)  (by simp [re_cat, vc_i, vc_l, vc_r, vc_n, vc_a]) (by rw [show re_cat (.ref a0 :: [.int x2].reverse) = 2 from by simp [re_cat, vc_i, vc_l, vc_r, vc_n, vc_a]]; decide) (by decide) rfl eg ec rfl hs ?_
  rw [eA]
  exact wp_mono K (fun k v h' z => wp_ret_weak (re_sb_nil _) z)
set_option maxRecDepth 20000 in
theorem B580_145 {SC : List Value} {d s : Nat} {h : re_H} {Q : Nat → Value → re_H → Prop} {xs0 : Int32}
    (K : Q 2 (.long xs0.toInt64) h) : wp SC 580 d s 145 [] [.int xs0] h Q := by
  refine wp_run 1 (pc' := 146) (lv' := []) (st' := [.long xs0.toInt64]) rfl ?_
  exact wp_retl ⟨rfl, rfl⟩ rfl K
set_option maxRecDepth 20000 in
theorem B580_147 {SC : List Value} {d s : Nat} {h : re_H} {Q : Nat → Value → re_H → Prop} {a0 : Nat} {x2 : Int32}
    {c : Nat} {w : List Value} (eg : re_hg h a0 = some (c, w)) (ec : c = 0) {s1 s2 : Nat} (hs : s1 + s2 ≤ s) (K : wp SC 6 d s1 0 [(0, .ref a0), (1, .int x2)] [] h (wp_ret SC 580 (d + 1) s2 152 [] [] Q)) : wp SC 580 (d + 1) s 147 [(0, .ref a0), (2, .int x2)] [] h Q := by
  refine wp_run 2 (pc' := 149) (lv' := [(0, .ref a0), (2, .int x2)]) (st' := [.int x2, .ref a0]) rfl ?_
  have eA : lv_args 0 (.ref a0 :: [.int x2].reverse) = [(0, .ref a0), (1, .int x2)] := by simp [lv_args, vc_i, vc_l, vc_r, vc_n, vc_a]
  refine wp_callV (ar := [.int x2]) (rest := []) (s1 := s1) (s2 := s2) (d' := d) ⟨rfl, rfl⟩ rfl (Or.inl rfl)  (by simp [re_cat, vc_i, vc_l, vc_r, vc_n, vc_a]) (by rw [show re_cat (.ref a0 :: [.int x2].reverse) = 2 from by simp [re_cat, vc_i, vc_l, vc_r, vc_n, vc_a]]; decide) (by decide) rfl eg ec rfl hs ?_
  rw [eA]
  exact wp_mono K (fun k v h' z => wp_ret_weak (re_sb_nil _) z)
set_option maxRecDepth 20000 in
theorem B580_152 {SC : List Value} {d s : Nat} {h : re_H} {Q : Nat → Value → re_H → Prop} {xs0 : Int32}
    (K : Q 2 (.long xs0.toInt64) h) : wp SC 580 d s 152 [] [.int xs0] h Q := by
  refine wp_run 1 (pc' := 153) (lv' := []) (st' := [.long xs0.toInt64]) rfl ?_
  exact wp_retl ⟨rfl, rfl⟩ rfl K
set_option maxRecDepth 20000 in
theorem B580_154 {SC : List Value} {d s : Nat} {h : re_H} {Q : Nat → Value → re_H → Prop} {a0 : Nat}
    {c : Nat} {w : List Value} (eg : re_hg h a0 = some (c, w)) (ec : c = 0) {s1 s2 : Nat} (hs : s1 + s2 ≤ s) (K : wp SC 8 d s1 0 [(0, .ref a0)] [] h (wp_ret SC 580 (d + 1) s2 158 [] [] Q)) : wp SC 580 (d + 1) s 154 [(0, .ref a0)] [] h Q := by
  refine wp_run 1 (pc' := 155) (lv' := [(0, .ref a0)]) (st' := [.ref a0]) rfl ?_
  have eA : lv_args 0 (.ref a0 :: [].reverse) = [(0, .ref a0)] := by simp [lv_args, vc_i, vc_l, vc_r, vc_n, vc_a]
  refine wp_callV (ar := []) (rest := []) (s1 := s1) (s2 := s2) (d' := d) ⟨rfl, rfl⟩ rfl (Or.inl rfl)  (by simp [re_cat, vc_i, vc_l, vc_r, vc_n, vc_a]) (by rw [show re_cat (.ref a0 :: [].reverse) = 1 from by simp [re_cat, vc_i, vc_l, vc_r, vc_n, vc_a]]; decide) (by decide) rfl eg ec rfl hs ?_
  rw [eA]
  exact wp_mono K (fun k v h' z => wp_ret_weak (re_sb_nil _) z)
set_option maxRecDepth 20000 in
theorem B580_158 {SC : List Value} {d s : Nat} {h : re_H} {Q : Nat → Value → re_H → Prop} {xs0 : Int32}
    (K : Q 2 (.long xs0.toInt64) h) : wp SC 580 d s 158 [] [.int xs0] h Q := by
  refine wp_run 1 (pc' := 159) (lv' := []) (st' := [.long xs0.toInt64]) rfl ?_
  exact wp_retl ⟨rfl, rfl⟩ rfl K
set_option maxRecDepth 20000 in
theorem B580_160 {SC : List Value} {d s : Nat} {h : re_H} {Q : Nat → Value → re_H → Prop} {a0 : Nat} {x2 : Int32}
    {c : Nat} {w : List Value} (eg : re_hg h a0 = some (c, w)) (ec : c = 0) {s1 s2 : Nat} (hs : s1 + s2 ≤ s) (K : wp SC 11 d s1 0 [(0, .ref a0), (1, .int x2)] [] h (wp_ret SC 580 (d + 1) s2 165 [] [] Q)) : wp SC 580 (d + 1) s 160 [(0, .ref a0), (2, .int x2)] [] h Q := by
  refine wp_run 2 (pc' := 162) (lv' := [(0, .ref a0), (2, .int x2)]) (st' := [.int x2, .ref a0]) rfl ?_
  have eA : lv_args 0 (.ref a0 :: [.int x2].reverse) = [(0, .ref a0), (1, .int x2)] := by simp [lv_args, vc_i, vc_l, vc_r, vc_n, vc_a]
  refine wp_callV (ar := [.int x2]) (rest := []) (s1 := s1) (s2 := s2) (d' := d) ⟨rfl, rfl⟩ rfl (Or.inl rfl)  (by simp [re_cat, vc_i, vc_l, vc_r, vc_n, vc_a]) (by rw [show re_cat (.ref a0 :: [.int x2].reverse) = 2 from by simp [re_cat, vc_i, vc_l, vc_r, vc_n, vc_a]]; decide) (by decide) rfl eg ec rfl hs ?_
  rw [eA]
  exact wp_mono K (fun k v h' z => wp_ret_weak (re_sb_nil _) z)
set_option maxRecDepth 20000 in
theorem B580_165 {SC : List Value} {d s : Nat} {h : re_H} {Q : Nat → Value → re_H → Prop} {xs0 : Int32}
    (K : Q 2 (.long xs0.toInt64) h) : wp SC 580 d s 165 [] [.int xs0] h Q := by
  refine wp_run 1 (pc' := 166) (lv' := []) (st' := [.long xs0.toInt64]) rfl ?_
  exact wp_retl ⟨rfl, rfl⟩ rfl K
set_option maxRecDepth 20000 in
theorem B580_167 {SC : List Value} {d s : Nat} {h : re_H} {Q : Nat → Value → re_H → Prop} {a0 : Nat}
    {c : Nat} {w : List Value} (eg : re_hg h a0 = some (c, w)) (ec : c = 0) {s1 s2 : Nat} (hs : s1 + s2 ≤ s) (K : wp SC 12 d s1 0 [(0, .ref a0)] [] h (wp_ret SC 580 (d + 1) s2 171 [] [] Q)) : wp SC 580 (d + 1) s 167 [(0, .ref a0)] [] h Q := by
  refine wp_run 1 (pc' := 168) (lv' := [(0, .ref a0)]) (st' := [.ref a0]) rfl ?_
  have eA : lv_args 0 (.ref a0 :: [].reverse) = [(0, .ref a0)] := by simp [lv_args, vc_i, vc_l, vc_r, vc_n, vc_a]
  refine wp_callV (ar := []) (rest := []) (s1 := s1) (s2 := s2) (d' := d) ⟨rfl, rfl⟩ rfl (Or.inl rfl)  (by simp [re_cat, vc_i, vc_l, vc_r, vc_n, vc_a]) (by rw [show re_cat (.ref a0 :: [].reverse) = 1 from by simp [re_cat, vc_i, vc_l, vc_r, vc_n, vc_a]]; decide) (by decide) rfl eg ec rfl hs ?_
  rw [eA]
  exact wp_mono K (fun k v h' z => wp_ret_weak (re_sb_nil _) z)
set_option maxRecDepth 20000 in
theorem B580_171 {SC : List Value} {d s : Nat} {h : re_H} {Q : Nat → Value → re_H → Prop} {xs0 : Int32}
    (K : Q 2 (.long xs0.toInt64) h) : wp SC 580 d s 171 [] [.int xs0] h Q := by
  refine wp_run 1 (pc' := 172) (lv' := []) (st' := [.long xs0.toInt64]) rfl ?_
  exact wp_retl ⟨rfl, rfl⟩ rfl K
set_option maxRecDepth 20000 in
theorem B580_173 {SC : List Value} {d s : Nat} {h : re_H} {Q : Nat → Value → re_H → Prop} {a0 : Nat} {x2 : Int32}
    {c : Nat} {w : List Value} (eg : re_hg h a0 = some (c, w)) (ec : c = 0) {s1 s2 : Nat} (hs : s1 + s2 ≤ s) (K : wp SC 13 d s1 0 [(0, .ref a0), (1, .int x2)] [] h (wp_ret SC 580 (d + 1) s2 178 [] [] Q)) : wp SC 580 (d + 1) s 173 [(0, .ref a0), (2, .int x2)] [] h Q := by
  refine wp_run 2 (pc' := 175) (lv' := [(0, .ref a0), (2, .int x2)]) (st' := [.int x2, .ref a0]) rfl ?_
  have eA : lv_args 0 (.ref a0 :: [.int x2].reverse) = [(0, .ref a0), (1, .int x2)] := by simp [lv_args, vc_i, vc_l, vc_r, vc_n, vc_a]
  refine wp_callV (ar := [.int x2]) (rest := []) (s1 := s1) (s2 := s2) (d' := d) ⟨rfl, rfl⟩ rfl (Or.inl rfl)  (by simp [re_cat, vc_i, vc_l, vc_r, vc_n, vc_a]) (by rw [show re_cat (.ref a0 :: [.int x2].reverse) = 2 from by simp [re_cat, vc_i, vc_l, vc_r, vc_n, vc_a]]; decide) (by decide) rfl eg ec rfl hs ?_
  rw [eA]
  exact wp_mono K (fun k v h' z => wp_ret_weak (re_sb_nil _) z)
set_option maxRecDepth 20000 in
theorem B580_178 {SC : List Value} {d s : Nat} {h : re_H} {Q : Nat → Value → re_H → Prop} {xs0 : Int32}
    (K : Q 2 (.long xs0.toInt64) h) : wp SC 580 d s 178 [] [.int xs0] h Q := by
  refine wp_run 1 (pc' := 179) (lv' := []) (st' := [.long xs0.toInt64]) rfl ?_
  exact wp_retl ⟨rfl, rfl⟩ rfl K
set_option maxRecDepth 20000 in
theorem B580_180 {SC : List Value} {d s : Nat} {h : re_H} {Q : Nat → Value → re_H → Prop} {a0 : Nat} {x2 : Int32}
    {c : Nat} {w : List Value} (eg : re_hg h a0 = some (c, w)) (ec : c = 0) {s1 s2 : Nat} (hs : s1 + s2 ≤ s) (K : wp SC 14 d s1 0 [(0, .ref a0), (1, .int x2)] [] h (wp_ret SC 580 (d + 1) s2 185 [] [] Q)) : wp SC 580 (d + 1) s 180 [(0, .ref a0), (2, .int x2)] [] h Q := by
  refine wp_run 2 (pc' := 182) (lv' := [(0, .ref a0), (2, .int x2)]) (st' := [.int x2, .ref a0]) rfl ?_
  have eA : lv_args 0 (.ref a0 :: [.int x2].reverse) = [(0, .ref a0), (1, .int x2)] := by simp [lv_args, vc_i, vc_l, vc_r, vc_n, vc_a]
  refine wp_callV (ar := [.int x2]) (rest := []) (s1 := s1) (s2 := s2) (d' := d) ⟨rfl, rfl⟩ rfl (Or.inl rfl)  (by simp [re_cat, vc_i, vc_l, vc_r, vc_n, vc_a]) (by rw [show re_cat (.ref a0 :: [.int x2].reverse) = 2 from by simp [re_cat, vc_i, vc_l, vc_r, vc_n, vc_a]]; decide) (by decide) rfl eg ec rfl hs ?_
  rw [eA]
  exact wp_mono K (fun k v h' z => wp_ret_weak (re_sb_nil _) z)
set_option maxRecDepth 20000 in
theorem B580_185 {SC : List Value} {d s : Nat} {h : re_H} {Q : Nat → Value → re_H → Prop} {xs0 : Int32}
    (K : Q 2 (.long xs0.toInt64) h) : wp SC 580 d s 185 [] [.int xs0] h Q := by
  refine wp_run 1 (pc' := 186) (lv' := []) (st' := [.long xs0.toInt64]) rfl ?_
  exact wp_retl ⟨rfl, rfl⟩ rfl K
set_option maxRecDepth 20000 in
theorem B580_187 {SC : List Value} {d s : Nat} {h : re_H} {Q : Nat → Value → re_H → Prop} {a0 : Nat}
    {c : Nat} {w : List Value} (eg : re_hg h a0 = some (c, w)) (ec : c = 0) {s1 s2 : Nat} (hs : s1 + s2 ≤ s) (K : wp SC 15 d s1 0 [(0, .ref a0)] [] h (wp_ret SC 580 (d + 1) s2 191 [] [] Q)) : wp SC 580 (d + 1) s 187 [(0, .ref a0)] [] h Q := by
  refine wp_run 1 (pc' := 188) (lv' := [(0, .ref a0)]) (st' := [.ref a0]) rfl ?_
  have eA : lv_args 0 (.ref a0 :: [].reverse) = [(0, .ref a0)] := by simp [lv_args, vc_i, vc_l, vc_r, vc_n, vc_a]
  refine wp_callV (ar := []) (rest := []) (s1 := s1) (s2 := s2) (d' := d) ⟨rfl, rfl⟩ rfl (Or.inl rfl)  (by simp [re_cat, vc_i, vc_l, vc_r, vc_n, vc_a]) (by rw [show re_cat (.ref a0 :: [].reverse) = 1 from by simp [re_cat, vc_i, vc_l, vc_r, vc_n, vc_a]]; decide) (by decide) rfl eg ec rfl hs ?_
  rw [eA]
  exact wp_mono K (fun k v h' z => wp_ret_weak (re_sb_nil _) z)
set_option maxRecDepth 20000 in
theorem B580_191 {SC : List Value} {d s : Nat} {h : re_H} {Q : Nat → Value → re_H → Prop} {xs0 : Int32}
    (K : Q 2 (.long xs0.toInt64) h) : wp SC 580 d s 191 [] [.int xs0] h Q := by
  refine wp_run 1 (pc' := 192) (lv' := []) (st' := [.long xs0.toInt64]) rfl ?_
  exact wp_retl ⟨rfl, rfl⟩ rfl K
set_option maxRecDepth 20000 in
theorem B580_193 {SC : List Value} {d s : Nat} {h : re_H} {Q : Nat → Value → re_H → Prop} {a0 : Nat}
    {c : Nat} {w : List Value} (eg : re_hg h a0 = some (c, w)) (ec : c = 0) {s1 s2 : Nat} (hs : s1 + s2 ≤ s) (K : wp SC 16 d s1 0 [(0, .ref a0)] [] h (wp_ret SC 580 (d + 1) s2 197 [] [] Q)) : wp SC 580 (d + 1) s 193 [(0, .ref a0)] [] h Q := by
  refine wp_run 1 (pc' := 194) (lv' := [(0, .ref a0)]) (st' := [.ref a0]) rfl ?_
  have eA : lv_args 0 (.ref a0 :: [].reverse) = [(0, .ref a0)] := by simp [lv_args, vc_i, vc_l, vc_r, vc_n, vc_a]
  refine wp_callV (ar := []) (rest := []) (s1 := s1) (s2 := s2) (d' := d) ⟨rfl, rfl⟩ rfl (Or.inl rfl)  (by simp [re_cat, vc_i, vc_l, vc_r, vc_n, vc_a]) (by rw [show re_cat (.ref a0 :: [].reverse) = 1 from by simp [re_cat, vc_i, vc_l, vc_r, vc_n, vc_a]]; decide) (by decide) rfl eg ec rfl hs ?_
  rw [eA]
  exact wp_mono K (fun k v h' z => wp_ret_weak (re_sb_nil _) z)
set_option maxRecDepth 20000 in
theorem B580_197 {SC : List Value} {d s : Nat} {h : re_H} {Q : Nat → Value → re_H → Prop} {xs0 : Int32}
    (K : Q 2 (.long xs0.toInt64) h) : wp SC 580 d s 197 [] [.int xs0] h Q := by
  refine wp_run 1 (pc' := 198) (lv' := []) (st' := [.long xs0.toInt64]) rfl ?_
  exact wp_retl ⟨rfl, rfl⟩ rfl K
set_option maxRecDepth 20000 in
theorem B580_199 {SC : List Value} {d s : Nat} {h : re_H} {Q : Nat → Value → re_H → Prop} {a0 : Nat} {x2 : Int32} {x3 : Int32}
    {c : Nat} {w : List Value} (eg : re_hg h a0 = some (c, w)) (ec : c = 0) {s1 s2 : Nat} (hs : s1 + s2 ≤ s) (K : wp SC 18 d s1 0 [(0, .ref a0), (1, .int x2), (2, .int x3)] [] h (wp_ret SC 580 (d + 1) s2 205 [] [] Q)) : wp SC 580 (d + 1) s 199 [(0, .ref a0), (2, .int x2), (3, .int x3)] [] h Q := by
  refine wp_run 3 (pc' := 202) (lv' := [(0, .ref a0), (2, .int x2), (3, .int x3)]) (st' := [.int x3, .int x2, .ref a0]) rfl ?_
  have eA : lv_args 0 (.ref a0 :: [.int x3, .int x2].reverse) = [(0, .ref a0), (1, .int x2), (2, .int x3)] := by simp [lv_args, vc_i, vc_l, vc_r, vc_n, vc_a]
  refine wp_callV (ar := [.int x3, .int x2]) (rest := []) (s1 := s1) (s2 := s2) (d' := d) ⟨rfl, rfl⟩ rfl (Or.inl rfl)  (by simp [re_cat, vc_i, vc_l, vc_r, vc_n, vc_a]) (by rw [show re_cat (.ref a0 :: [.int x3, .int x2].reverse) = 3 from by simp [re_cat, vc_i, vc_l, vc_r, vc_n, vc_a]]; decide) (by decide) rfl eg ec rfl hs ?_
  rw [eA]
  exact wp_mono K (fun k v h' z => wp_ret_weak (re_sb_nil _) z)
set_option maxRecDepth 20000 in
theorem B580_205 {SC : List Value} {d s : Nat} {h : re_H} {Q : Nat → Value → re_H → Prop} {xs0 : Int32}
    (K : Q 2 (.long xs0.toInt64) h) : wp SC 580 d s 205 [] [.int xs0] h Q := by
  refine wp_run 1 (pc' := 206) (lv' := []) (st' := [.long xs0.toInt64]) rfl ?_
  exact wp_retl ⟨rfl, rfl⟩ rfl K
set_option maxRecDepth 20000 in
theorem B580_207 {SC : List Value} {d s : Nat} {h : re_H} {Q : Nat → Value → re_H → Prop} {a0 : Nat} {x2 : Int32} {x3 : Int32}
    {c : Nat} {w : List Value} (eg : re_hg h a0 = some (c, w)) (ec : c = 0) {s1 s2 : Nat} (hs : s1 + s2 ≤ s) (K : wp SC 20 d s1 0 [(0, .ref a0), (1, .int x2), (2, .int x3)] [] h (wp_ret SC 580 (d + 1) s2 213 [] [] Q)) : wp SC 580 (d + 1) s 207 [(0, .ref a0), (2, .int x2), (3, .int x3)] [] h Q := by
  refine wp_run 3 (pc' := 210) (lv' := [(0, .ref a0), (2, .int x2), (3, .int x3)]) (st' := [.int x3, .int x2, .ref a0]) rfl ?_
  have eA : lv_args 0 (.ref a0 :: [.int x3, .int x2].reverse) = [(0, .ref a0), (1, .int x2), (2, .int x3)] := by simp [lv_args, vc_i, vc_l, vc_r, vc_n, vc_a]
  refine wp_callV (ar := [.int x3, .int x2]) (rest := []) (s1 := s1) (s2 := s2) (d' := d) ⟨rfl, rfl⟩ rfl (Or.inl rfl)  (by simp [re_cat, vc_i, vc_l, vc_r, vc_n, vc_a]) (by rw [show re_cat (.ref a0 :: [.int x3, .int x2].reverse) = 3 from by simp [re_cat, vc_i, vc_l, vc_r, vc_n, vc_a]]; decide) (by decide) rfl eg ec rfl hs ?_
  rw [eA]
  exact wp_mono K (fun k v h' z => wp_ret_weak (re_sb_nil _) z)
set_option maxRecDepth 20000 in
theorem B580_213 {SC : List Value} {d s : Nat} {h : re_H} {Q : Nat → Value → re_H → Prop} {xs0 : Int32}
    (K : Q 2 (.long xs0.toInt64) h) : wp SC 580 d s 213 [] [.int xs0] h Q := by
  refine wp_run 1 (pc' := 214) (lv' := []) (st' := [.long xs0.toInt64]) rfl ?_
  exact wp_retl ⟨rfl, rfl⟩ rfl K
set_option maxRecDepth 20000 in
theorem B580_215 {SC : List Value} {d s : Nat} {h : re_H} {Q : Nat → Value → re_H → Prop} {a0 : Nat} {x2 : Int32}
    {c : Nat} {w : List Value} (eg : re_hg h a0 = some (c, w)) (ec : c = 0) {s1 s2 : Nat} (hs : s1 + s2 ≤ s) (K : wp SC 21 d s1 0 [(0, .ref a0), (1, .int x2)] [] h (wp_ret SC 580 (d + 1) s2 220 [] [] Q)) : wp SC 580 (d + 1) s 215 [(0, .ref a0), (2, .int x2)] [] h Q := by
  refine wp_run 2 (pc' := 217) (lv' := [(0, .ref a0), (2, .int x2)]) (st' := [.int x2, .ref a0]) rfl ?_
  have eA : lv_args 0 (.ref a0 :: [.int x2].reverse) = [(0, .ref a0), (1, .int x2)] := by simp [lv_args, vc_i, vc_l, vc_r, vc_n, vc_a]
  refine wp_callV (ar := [.int x2]) (rest := []) (s1 := s1) (s2 := s2) (d' := d) ⟨rfl, rfl⟩ rfl (Or.inl rfl)  (by simp [re_cat, vc_i, vc_l, vc_r, vc_n, vc_a]) (by rw [show re_cat (.ref a0 :: [.int x2].reverse) = 2 from by simp [re_cat, vc_i, vc_l, vc_r, vc_n, vc_a]]; decide) (by decide) rfl eg ec rfl hs ?_
  rw [eA]
  exact wp_mono K (fun k v h' z => wp_ret_weak (re_sb_nil _) z)
set_option maxRecDepth 20000 in
theorem B580_220 {SC : List Value} {d s : Nat} {h : re_H} {Q : Nat → Value → re_H → Prop} {xs0 : Int32}
    (K : Q 2 (.long xs0.toInt64) h) : wp SC 580 d s 220 [] [.int xs0] h Q := by
  refine wp_run 1 (pc' := 221) (lv' := []) (st' := [.long xs0.toInt64]) rfl ?_
  exact wp_retl ⟨rfl, rfl⟩ rfl K
set_option maxRecDepth 20000 in
theorem B580_222 {SC : List Value} {d s : Nat} {h : re_H} {Q : Nat → Value → re_H → Prop} {a0 : Nat} {x2 : Int32} {x3 : Int32}
    {c : Nat} {w : List Value} (eg : re_hg h a0 = some (c, w)) (ec : c = 0) {s1 s2 : Nat} (hs : s1 + s2 ≤ s) (K : wp SC 22 d s1 0 [(0, .ref a0), (1, .int x2), (2, .int x3)] [] h (wp_ret SC 580 (d + 1) s2 228 [] [] Q)) : wp SC 580 (d + 1) s 222 [(0, .ref a0), (2, .int x2), (3, .int x3)] [] h Q := by
  refine wp_run 3 (pc' := 225) (lv' := [(0, .ref a0), (2, .int x2), (3, .int x3)]) (st' := [.int x3, .int x2, .ref a0]) rfl ?_
  have eA : lv_args 0 (.ref a0 :: [.int x3, .int x2].reverse) = [(0, .ref a0), (1, .int x2), (2, .int x3)] := by simp [lv_args, vc_i, vc_l, vc_r, vc_n, vc_a]
  refine wp_callV (ar := [.int x3, .int x2]) (rest := []) (s1 := s1) (s2 := s2) (d' := d) ⟨rfl, rfl⟩ rfl (Or.inl rfl)  (by simp [re_cat, vc_i, vc_l, vc_r, vc_n, vc_a]) (by rw [show re_cat (.ref a0 :: [.int x3, .int x2].reverse) = 3 from by simp [re_cat, vc_i, vc_l, vc_r, vc_n, vc_a]]; decide) (by decide) rfl eg ec rfl hs ?_
  rw [eA]
  exact wp_mono K (fun k v h' z => wp_ret_weak (re_sb_nil _) z)
set_option maxRecDepth 20000 in
theorem B580_228 {SC : List Value} {d s : Nat} {h : re_H} {Q : Nat → Value → re_H → Prop} {xs0 : Int32}
    (K : Q 2 (.long xs0.toInt64) h) : wp SC 580 d s 228 [] [.int xs0] h Q := by
  refine wp_run 1 (pc' := 229) (lv' := []) (st' := [.long xs0.toInt64]) rfl ?_
  exact wp_retl ⟨rfl, rfl⟩ rfl K
set_option maxRecDepth 20000 in
theorem B580_230 {SC : List Value} {d s : Nat} {h : re_H} {Q : Nat → Value → re_H → Prop} {a0 : Nat} {x2 : Int32} {x3 : Int32}
    {c : Nat} {w : List Value} (eg : re_hg h a0 = some (c, w)) (ec : c = 0) {s1 s2 : Nat} (hs : s1 + s2 ≤ s) (K : wp SC 23 d s1 0 [(0, .ref a0), (1, .int x2), (2, .long x3.toInt64)] [] h (wp_ret SC 580 (d + 1) s2 237 [] [] Q)) : wp SC 580 (d + 1) s 230 [(0, .ref a0), (2, .int x2), (3, .int x3)] [] h Q := by
  refine wp_run 4 (pc' := 234) (lv' := [(0, .ref a0), (2, .int x2), (3, .int x3)]) (st' := [.long x3.toInt64, .int x2, .ref a0]) rfl ?_
  have eA : lv_args 0 (.ref a0 :: [.long x3.toInt64, .int x2].reverse) = [(0, .ref a0), (1, .int x2), (2, .long x3.toInt64)] := by simp [lv_args, vc_i, vc_l, vc_r, vc_n, vc_a]
  refine wp_callV (ar := [.long x3.toInt64, .int x2]) (rest := []) (s1 := s1) (s2 := s2) (d' := d) ⟨rfl, rfl⟩ rfl (Or.inl rfl)  (by simp [re_cat, vc_i, vc_l, vc_r, vc_n, vc_a]) (by rw [show re_cat (.ref a0 :: [.long x3.toInt64, .int x2].reverse) = 4 from by simp [re_cat, vc_i, vc_l, vc_r, vc_n, vc_a]]; decide) (by decide) rfl eg ec rfl hs ?_
  rw [eA]
  exact wp_mono K (fun k v h' z => wp_ret_weak (re_sb_nil _) z)
set_option maxRecDepth 20000 in
theorem B580_237 {SC : List Value} {d s : Nat} {h : re_H} {Q : Nat → Value → re_H → Prop} {ls0 : Int64}
    (K : Q 2 (.long ls0) h) : wp SC 580 d s 237 [] [.long ls0] h Q := by
  exact wp_retl ⟨rfl, rfl⟩ rfl K
set_option maxRecDepth 20000 in
theorem B580_238 {SC : List Value} {d s : Nat} {h : re_H} {Q : Nat → Value → re_H → Prop} {a0 : Nat} {x2 : Int32}
    {c : Nat} {w : List Value} (eg : re_hg h a0 = some (c, w)) (ec : c = 0) (K : wp SC 24 d 0 0 [(0, .ref a0), (1, .int x2)] [] h (wp_ret SC 580 (d + 1) s 243 [] [] Q)) : wp SC 580 (d + 1) s 238 [(0, .ref a0), (2, .int x2)] [] h Q := by
  refine wp_run 2 (pc' := 240) (lv' := [(0, .ref a0), (2, .int x2)]) (st' := [.int x2, .ref a0]) rfl ?_
  have eA : lv_args 0 (.ref a0 :: [.int x2].reverse) = [(0, .ref a0), (1, .int x2)] := by simp [lv_args, vc_i, vc_l, vc_r, vc_n, vc_a]
  refine wp_callV (ar := [.int x2]) (rest := []) (s1 := 0) (s2 := s) (d' := d) ⟨rfl, rfl⟩ rfl (Or.inl rfl)  (by simp [re_cat, vc_i, vc_l, vc_r, vc_n, vc_a]) (by rw [show re_cat (.ref a0 :: [.int x2].reverse) = 2 from by simp [re_cat, vc_i, vc_l, vc_r, vc_n, vc_a]]; decide) (by decide) rfl eg ec rfl (Nat.le_of_eq (Nat.zero_add s)) ?_
  rw [eA]
  exact wp_mono K (fun k v h' z => wp_ret_weak (re_sb_nil _) z)
set_option maxRecDepth 20000 in
theorem B580_243 {SC : List Value} {d s : Nat} {h : re_H} {Q : Nat → Value → re_H → Prop} {xs0 : Int32}
    (K : Q 2 (.long xs0.toInt64) h) : wp SC 580 d s 243 [] [.int xs0] h Q := by
  refine wp_run 1 (pc' := 244) (lv' := []) (st' := [.long xs0.toInt64]) rfl ?_
  exact wp_retl ⟨rfl, rfl⟩ rfl K
set_option maxRecDepth 20000 in
theorem B580_245 {SC : List Value} {d s : Nat} {h : re_H} {Q : Nat → Value → re_H → Prop} {a0 : Nat} {x2 : Int32}
    {c : Nat} {w : List Value} (eg : re_hg h a0 = some (c, w)) (ec : c = 0) {s1 s2 : Nat} (hs : s1 + s2 ≤ s) (K : wp SC 25 d s1 0 [(0, .ref a0), (1, .int x2)] [] h (wp_ret SC 580 (d + 1) s2 250 [] [] Q)) : wp SC 580 (d + 1) s 245 [(0, .ref a0), (2, .int x2)] [] h Q := by
  refine wp_run 2 (pc' := 247) (lv' := [(0, .ref a0), (2, .int x2)]) (st' := [.int x2, .ref a0]) rfl ?_
  have eA : lv_args 0 (.ref a0 :: [.int x2].reverse) = [(0, .ref a0), (1, .int x2)] := by simp [lv_args, vc_i, vc_l, vc_r, vc_n, vc_a]
  refine wp_callV (ar := [.int x2]) (rest := []) (s1 := s1) (s2 := s2) (d' := d) ⟨rfl, rfl⟩ rfl (Or.inl rfl)  (by simp [re_cat, vc_i, vc_l, vc_r, vc_n, vc_a]) (by rw [show re_cat (.ref a0 :: [.int x2].reverse) = 2 from by simp [re_cat, vc_i, vc_l, vc_r, vc_n, vc_a]]; decide) (by decide) rfl eg ec rfl hs ?_
  rw [eA]
  exact wp_mono K (fun k v h' z => wp_ret_weak (re_sb_nil _) z)
set_option maxRecDepth 20000 in
theorem B580_250 {SC : List Value} {d s : Nat} {h : re_H} {Q : Nat → Value → re_H → Prop} {xs0 : Int32}
    (K : Q 2 (.long xs0.toInt64) h) : wp SC 580 d s 250 [] [.int xs0] h Q := by
  refine wp_run 1 (pc' := 251) (lv' := []) (st' := [.long xs0.toInt64]) rfl ?_
  exact wp_retl ⟨rfl, rfl⟩ rfl K
set_option maxRecDepth 20000 in
theorem B580_252 {SC : List Value} {d s : Nat} {h : re_H} {Q : Nat → Value → re_H → Prop} {a0 : Nat} {x2 : Int32}
    {c : Nat} {w : List Value} (eg : re_hg h a0 = some (c, w)) (ec : c = 0) {s1 s2 : Nat} (hs : s1 + s2 ≤ s) (K : wp SC 26 d s1 0 [(0, .ref a0), (1, .int x2)] [] h (wp_ret SC 580 (d + 1) s2 257 [] [] Q)) : wp SC 580 (d + 1) s 252 [(0, .ref a0), (2, .int x2)] [] h Q := by
  refine wp_run 2 (pc' := 254) (lv' := [(0, .ref a0), (2, .int x2)]) (st' := [.int x2, .ref a0]) rfl ?_
  have eA : lv_args 0 (.ref a0 :: [.int x2].reverse) = [(0, .ref a0), (1, .int x2)] := by simp [lv_args, vc_i, vc_l, vc_r, vc_n, vc_a]
  refine wp_callV (ar := [.int x2]) (rest := []) (s1 := s1) (s2 := s2) (d' := d) ⟨rfl, rfl⟩ rfl (Or.inl rfl)  (by simp [re_cat, vc_i, vc_l, vc_r, vc_n, vc_a]) (by rw [show re_cat (.ref a0 :: [.int x2].reverse) = 2 from by simp [re_cat, vc_i, vc_l, vc_r, vc_n, vc_a]]; decide) (by decide) rfl eg ec rfl hs ?_
  rw [eA]
  exact wp_mono K (fun k v h' z => wp_ret_weak (re_sb_nil _) z)
set_option maxRecDepth 20000 in
theorem B580_257 {SC : List Value} {d s : Nat} {h : re_H} {Q : Nat → Value → re_H → Prop} {xs0 : Int32}
    (K : Q 2 (.long xs0.toInt64) h) : wp SC 580 d s 257 [] [.int xs0] h Q := by
  refine wp_run 1 (pc' := 258) (lv' := []) (st' := [.long xs0.toInt64]) rfl ?_
  exact wp_retl ⟨rfl, rfl⟩ rfl K
set_option maxRecDepth 20000 in
theorem B580_259 {SC : List Value} {d s : Nat} {h : re_H} {Q : Nat → Value → re_H → Prop} {a0 : Nat}
    {c : Nat} {w : List Value} (eg : re_hg h a0 = some (c, w)) (ec : c = 0) {s1 s2 : Nat} (hs : s1 + s2 ≤ s) (K : wp SC 27 d s1 0 [(0, .ref a0)] [] h (wp_ret SC 580 (d + 1) s2 263 [] [] Q)) : wp SC 580 (d + 1) s 259 [(0, .ref a0)] [] h Q := by
  refine wp_run 1 (pc' := 260) (lv' := [(0, .ref a0)]) (st' := [.ref a0]) rfl ?_
  have eA : lv_args 0 (.ref a0 :: [].reverse) = [(0, .ref a0)] := by simp [lv_args, vc_i, vc_l, vc_r, vc_n, vc_a]
  refine wp_callV (ar := []) (rest := []) (s1 := s1) (s2 := s2) (d' := d) ⟨rfl, rfl⟩ rfl (Or.inl rfl)  (by simp [re_cat, vc_i, vc_l, vc_r, vc_n, vc_a]) (by rw [show re_cat (.ref a0 :: [].reverse) = 1 from by simp [re_cat, vc_i, vc_l, vc_r, vc_n, vc_a]]; decide) (by decide) rfl eg ec rfl hs ?_
  rw [eA]
  exact wp_mono K (fun k v h' z => wp_ret_weak (re_sb_nil _) z)
set_option maxRecDepth 20000 in
theorem B580_263 {SC : List Value} {d s : Nat} {h : re_H} {Q : Nat → Value → re_H → Prop} {xs0 : Int32}
    (K : Q 2 (.long xs0.toInt64) h) : wp SC 580 d s 263 [] [.int xs0] h Q := by
  refine wp_run 1 (pc' := 264) (lv' := []) (st' := [.long xs0.toInt64]) rfl ?_
  exact wp_retl ⟨rfl, rfl⟩ rfl K
set_option maxRecDepth 20000 in
theorem B580_265 {SC : List Value} {d s : Nat} {h : re_H} {Q : Nat → Value → re_H → Prop} {a0 : Nat} {x2 : Int32} {x3 : Int32}
    {c : Nat} {w : List Value} (eg : re_hg h a0 = some (c, w)) (ec : c = 0) {s1 s2 : Nat} (hs : s1 + s2 ≤ s) (K : wp SC 28 d s1 0 [(0, .ref a0), (1, .int x2), (2, .int x3)] [] h (wp_ret SC 580 (d + 1) s2 271 [] [] Q)) : wp SC 580 (d + 1) s 265 [(0, .ref a0), (2, .int x2), (3, .int x3)] [] h Q := by
  refine wp_run 3 (pc' := 268) (lv' := [(0, .ref a0), (2, .int x2), (3, .int x3)]) (st' := [.int x3, .int x2, .ref a0]) rfl ?_
  have eA : lv_args 0 (.ref a0 :: [.int x3, .int x2].reverse) = [(0, .ref a0), (1, .int x2), (2, .int x3)] := by simp [lv_args, vc_i, vc_l, vc_r, vc_n, vc_a]
  refine wp_callV (ar := [.int x3, .int x2]) (rest := []) (s1 := s1) (s2 := s2) (d' := d) ⟨rfl, rfl⟩ rfl (Or.inl rfl)  (by simp [re_cat, vc_i, vc_l, vc_r, vc_n, vc_a]) (by rw [show re_cat (.ref a0 :: [.int x3, .int x2].reverse) = 3 from by simp [re_cat, vc_i, vc_l, vc_r, vc_n, vc_a]]; decide) (by decide) rfl eg ec rfl hs ?_
  rw [eA]
  exact wp_mono K (fun k v h' z => wp_ret_weak (re_sb_nil _) z)
set_option maxRecDepth 20000 in
theorem B580_271 {SC : List Value} {d s : Nat} {h : re_H} {Q : Nat → Value → re_H → Prop} {xs0 : Int32}
    (K1 : xs0 = 0 → wp SC 580 d s 278 [] [] h Q) (K2 : ¬ xs0 = 0 → wp SC 580 d s 274 [] [] h Q) : wp SC 580 d s 271 [] [.int xs0] h Q := by
  exact wp_if ⟨rfl, rfl⟩ rfl (fun hc => wp_weak (re_sb_nil _) (K1 (ic1_eq hc))) (fun hc => wp_weak (re_sb_nil _) (K2 (ic0_eq hc)))
set_option maxRecDepth 20000 in
theorem B580_274 {SC : List Value} {d s : Nat} {h : re_H} {Q : Nat → Value → re_H → Prop} 
    (K : wp SC 580 d s 279 [] [.long (1)] h Q) : wp SC 580 d s 274 [] [] h Q := by
  refine wp_run 2 (pc' := 279) (lv' := []) (st' := [.long (1)]) rfl ?_
  exact wp_weak (re_sb_nil _) K
set_option maxRecDepth 20000 in
theorem B580_278 {SC : List Value} {d s : Nat} {h : re_H} {Q : Nat → Value → re_H → Prop} 
    (K : wp SC 580 d s 279 [] [.long (0)] h Q) : wp SC 580 d s 278 [] [] h Q := by
  refine wp_run 1 (pc' := 279) (lv' := []) (st' := [.long (0)]) rfl ?_
  exact wp_weak (re_sb_nil _) K
set_option maxRecDepth 20000 in
theorem B580_279 {SC : List Value} {d s : Nat} {h : re_H} {Q : Nat → Value → re_H → Prop} {ls0 : Int64}
    (K : Q 2 (.long ls0) h) : wp SC 580 d s 279 [] [.long ls0] h Q := by
  exact wp_retl ⟨rfl, rfl⟩ rfl K
set_option maxRecDepth 20000 in
theorem B580_280 {SC : List Value} {d s : Nat} {h : re_H} {Q : Nat → Value → re_H → Prop} {a0 : Nat} {x2 : Int32}
    {c : Nat} {w : List Value} (eg : re_hg h a0 = some (c, w)) (ec : c = 0) {s1 s2 : Nat} (hs : s1 + s2 ≤ s) (K : wp SC 30 d s1 0 [(0, .ref a0), (1, .int x2)] [] h (wp_ret SC 580 (d + 1) s2 285 [] [] Q)) : wp SC 580 (d + 1) s 280 [(0, .ref a0), (2, .int x2)] [] h Q := by
  refine wp_run 2 (pc' := 282) (lv' := [(0, .ref a0), (2, .int x2)]) (st' := [.int x2, .ref a0]) rfl ?_
  have eA : lv_args 0 (.ref a0 :: [.int x2].reverse) = [(0, .ref a0), (1, .int x2)] := by simp [lv_args, vc_i, vc_l, vc_r, vc_n, vc_a]
  refine wp_callV (ar := [.int x2]) (rest := []) (s1 := s1) (s2 := s2) (d' := d) ⟨rfl, rfl⟩ rfl (Or.inl rfl)  (by simp [re_cat, vc_i, vc_l, vc_r, vc_n, vc_a]) (by rw [show re_cat (.ref a0 :: [.int x2].reverse) = 2 from by simp [re_cat, vc_i, vc_l, vc_r, vc_n, vc_a]]; decide) (by decide) rfl eg ec rfl hs ?_
  rw [eA]
  exact wp_mono K (fun k v h' z => wp_ret_weak (re_sb_nil _) z)
set_option maxRecDepth 20000 in
theorem B580_285 {SC : List Value} {d s : Nat} {h : re_H} {Q : Nat → Value → re_H → Prop} {xs0 : Int32}
    (K : Q 2 (.long xs0.toInt64) h) : wp SC 580 d s 285 [] [.int xs0] h Q := by
  refine wp_run 1 (pc' := 286) (lv' := []) (st' := [.long xs0.toInt64]) rfl ?_
  exact wp_retl ⟨rfl, rfl⟩ rfl K
set_option maxRecDepth 20000 in
theorem B580_287 {SC : List Value} {d s : Nat} {h : re_H} {Q : Nat → Value → re_H → Prop} {a0 : Nat} {x2 : Int32}
    {c : Nat} {w : List Value} (eg : re_hg h a0 = some (c, w)) (ec : c = 0) {s1 s2 : Nat} (hs : s1 + s2 ≤ s) (K : wp SC 31 d s1 0 [(0, .ref a0), (1, .int x2)] [] h (wp_ret SC 580 (d + 1) s2 292 [] [] Q)) : wp SC 580 (d + 1) s 287 [(0, .ref a0), (2, .int x2)] [] h Q := by
  refine wp_run 2 (pc' := 289) (lv' := [(0, .ref a0), (2, .int x2)]) (st' := [.int x2, .ref a0]) rfl ?_
  have eA : lv_args 0 (.ref a0 :: [.int x2].reverse) = [(0, .ref a0), (1, .int x2)] := by simp [lv_args, vc_i, vc_l, vc_r, vc_n, vc_a]
  refine wp_callV (ar := [.int x2]) (rest := []) (s1 := s1) (s2 := s2) (d' := d) ⟨rfl, rfl⟩ rfl (Or.inl rfl)  (by simp [re_cat, vc_i, vc_l, vc_r, vc_n, vc_a]) (by rw [show re_cat (.ref a0 :: [.int x2].reverse) = 2 from by simp [re_cat, vc_i, vc_l, vc_r, vc_n, vc_a]]; decide) (by decide) rfl eg ec rfl hs ?_
  rw [eA]
  exact wp_mono K (fun k v h' z => wp_ret_weak (re_sb_nil _) z)
set_option maxRecDepth 20000 in
theorem B580_292 {SC : List Value} {d s : Nat} {h : re_H} {Q : Nat → Value → re_H → Prop} {xs0 : Int32}
    (K : Q 2 (.long xs0.toInt64) h) : wp SC 580 d s 292 [] [.int xs0] h Q := by
  refine wp_run 1 (pc' := 293) (lv' := []) (st' := [.long xs0.toInt64]) rfl ?_
  exact wp_retl ⟨rfl, rfl⟩ rfl K
set_option maxRecDepth 20000 in
theorem B580_294 {SC : List Value} {d s : Nat} {h : re_H} {Q : Nat → Value → re_H → Prop} {a0 : Nat} {x2 : Int32}
    {c : Nat} {w : List Value} (eg : re_hg h a0 = some (c, w)) (ec : c = 0) {s1 s2 : Nat} (hs : s1 + s2 ≤ s) (K : wp SC 32 d s1 0 [(0, .ref a0), (1, .int x2)] [] h (wp_ret SC 580 (d + 1) s2 299 [] [] Q)) : wp SC 580 (d + 1) s 294 [(0, .ref a0), (2, .int x2)] [] h Q := by
  refine wp_run 2 (pc' := 296) (lv' := [(0, .ref a0), (2, .int x2)]) (st' := [.int x2, .ref a0]) rfl ?_
  have eA : lv_args 0 (.ref a0 :: [.int x2].reverse) = [(0, .ref a0), (1, .int x2)] := by simp [lv_args, vc_i, vc_l, vc_r, vc_n, vc_a]
  refine wp_callV (ar := [.int x2]) (rest := []) (s1 := s1) (s2 := s2) (d' := d) ⟨rfl, rfl⟩ rfl (Or.inl rfl)  (by simp [re_cat, vc_i, vc_l, vc_r, vc_n, vc_a]) (by rw [show re_cat (.ref a0 :: [.int x2].reverse) = 2 from by simp [re_cat, vc_i, vc_l, vc_r, vc_n, vc_a]]; decide) (by decide) rfl eg ec rfl hs ?_
  rw [eA]
  exact wp_mono K (fun k v h' z => wp_ret_weak (re_sb_nil _) z)
set_option maxRecDepth 20000 in
theorem B580_299 {SC : List Value} {d s : Nat} {h : re_H} {Q : Nat → Value → re_H → Prop} {xs0 : Int32}
    (K1 : xs0 = 0 → wp SC 580 d s 306 [] [] h Q) (K2 : ¬ xs0 = 0 → wp SC 580 d s 302 [] [] h Q) : wp SC 580 d s 299 [] [.int xs0] h Q := by
  exact wp_if ⟨rfl, rfl⟩ rfl (fun hc => wp_weak (re_sb_nil _) (K1 (ic1_eq hc))) (fun hc => wp_weak (re_sb_nil _) (K2 (ic0_eq hc)))
set_option maxRecDepth 20000 in
theorem B580_302 {SC : List Value} {d s : Nat} {h : re_H} {Q : Nat → Value → re_H → Prop} 
    (K : wp SC 580 d s 307 [] [.long (1)] h Q) : wp SC 580 d s 302 [] [] h Q := by
  refine wp_run 2 (pc' := 307) (lv' := []) (st' := [.long (1)]) rfl ?_
  exact wp_weak (re_sb_nil _) K
set_option maxRecDepth 20000 in
theorem B580_306 {SC : List Value} {d s : Nat} {h : re_H} {Q : Nat → Value → re_H → Prop} 
    (K : wp SC 580 d s 307 [] [.long (0)] h Q) : wp SC 580 d s 306 [] [] h Q := by
  refine wp_run 1 (pc' := 307) (lv' := []) (st' := [.long (0)]) rfl ?_
  exact wp_weak (re_sb_nil _) K
set_option maxRecDepth 20000 in
theorem B580_307 {SC : List Value} {d s : Nat} {h : re_H} {Q : Nat → Value → re_H → Prop} {ls0 : Int64}
    (K : Q 2 (.long ls0) h) : wp SC 580 d s 307 [] [.long ls0] h Q := by
  exact wp_retl ⟨rfl, rfl⟩ rfl K
set_option maxRecDepth 20000 in
theorem B580_308 {SC : List Value} {d s : Nat} {h : re_H} {Q : Nat → Value → re_H → Prop} {a0 : Nat} {x2 : Int32} {x3 : Int32}
    {c : Nat} {w : List Value} (eg : re_hg h a0 = some (c, w)) (ec : c = 0) {s1 s2 : Nat} (hs : s1 + s2 ≤ s) (K : wp SC 33 d s1 0 [(0, .ref a0), (1, .int x2), (2, .int x3)] [] h (wp_ret SC 580 (d + 1) s2 314 [] [] Q)) : wp SC 580 (d + 1) s 308 [(0, .ref a0), (2, .int x2), (3, .int x3)] [] h Q := by
  refine wp_run 3 (pc' := 311) (lv' := [(0, .ref a0), (2, .int x2), (3, .int x3)]) (st' := [.int x3, .int x2, .ref a0]) rfl ?_
  have eA : lv_args 0 (.ref a0 :: [.int x3, .int x2].reverse) = [(0, .ref a0), (1, .int x2), (2, .int x3)] := by simp [lv_args, vc_i, vc_l, vc_r, vc_n, vc_a]
  refine wp_callV (ar := [.int x3, .int x2]) (rest := []) (s1 := s1) (s2 := s2) (d' := d) ⟨rfl, rfl⟩ rfl (Or.inl rfl)  (by simp [re_cat, vc_i, vc_l, vc_r, vc_n, vc_a]) (by rw [show re_cat (.ref a0 :: [.int x3, .int x2].reverse) = 3 from by simp [re_cat, vc_i, vc_l, vc_r, vc_n, vc_a]]; decide) (by decide) rfl eg ec rfl hs ?_
  rw [eA]
  exact wp_mono K (fun k v h' z => wp_ret_weak (re_sb_nil _) z)
set_option maxRecDepth 20000 in
theorem B580_314 {SC : List Value} {d s : Nat} {h : re_H} {Q : Nat → Value → re_H → Prop} {xs0 : Int32}
    (K : Q 2 (.long xs0.toInt64) h) : wp SC 580 d s 314 [] [.int xs0] h Q := by
  refine wp_run 1 (pc' := 315) (lv' := []) (st' := [.long xs0.toInt64]) rfl ?_
  exact wp_retl ⟨rfl, rfl⟩ rfl K
set_option maxRecDepth 20000 in
theorem B580_316 {SC : List Value} {d s : Nat} {h : re_H} {Q : Nat → Value → re_H → Prop} {a0 : Nat} {x2 : Int32} {x3 : Int32}
    {c : Nat} {w : List Value} (eg : re_hg h a0 = some (c, w)) (ec : c = 0) {s1 s2 : Nat} (hs : s1 + s2 ≤ s) (K : wp SC 34 d s1 0 [(0, .ref a0), (1, .int x2), (2, .int x3)] [] h (wp_ret SC 580 (d + 1) s2 322 [] [] Q)) : wp SC 580 (d + 1) s 316 [(0, .ref a0), (2, .int x2), (3, .int x3)] [] h Q := by
  refine wp_run 3 (pc' := 319) (lv' := [(0, .ref a0), (2, .int x2), (3, .int x3)]) (st' := [.int x3, .int x2, .ref a0]) rfl ?_
  have eA : lv_args 0 (.ref a0 :: [.int x3, .int x2].reverse) = [(0, .ref a0), (1, .int x2), (2, .int x3)] := by simp [lv_args, vc_i, vc_l, vc_r, vc_n, vc_a]
  refine wp_callV (ar := [.int x3, .int x2]) (rest := []) (s1 := s1) (s2 := s2) (d' := d) ⟨rfl, rfl⟩ rfl (Or.inl rfl)  (by simp [re_cat, vc_i, vc_l, vc_r, vc_n, vc_a]) (by rw [show re_cat (.ref a0 :: [.int x3, .int x2].reverse) = 3 from by simp [re_cat, vc_i, vc_l, vc_r, vc_n, vc_a]]; decide) (by decide) rfl eg ec rfl hs ?_
  rw [eA]
  exact wp_mono K (fun k v h' z => wp_ret_weak (re_sb_nil _) z)
set_option maxRecDepth 20000 in
theorem B580_322 {SC : List Value} {d s : Nat} {h : re_H} {Q : Nat → Value → re_H → Prop} {ls0 : Int64}
    (K : Q 2 (.long ls0) h) : wp SC 580 d s 322 [] [.long ls0] h Q := by
  exact wp_retl ⟨rfl, rfl⟩ rfl K
set_option maxRecDepth 20000 in
theorem B580_323 {SC : List Value} {d s : Nat} {h : re_H} {Q : Nat → Value → re_H → Prop} {a0 : Nat} {x2 : Int32} {x3 : Int32}
    {c : Nat} {w : List Value} (eg : re_hg h a0 = some (c, w)) (ec : c = 0) {s1 s2 : Nat} (hs : s1 + s2 ≤ s) (K : wp SC 35 d s1 0 [(0, .ref a0), (1, .int x2), (2, .int x3)] [] h (wp_ret SC 580 (d + 1) s2 329 [] [] Q)) : wp SC 580 (d + 1) s 323 [(0, .ref a0), (2, .int x2), (3, .int x3)] [] h Q := by
  refine wp_run 3 (pc' := 326) (lv' := [(0, .ref a0), (2, .int x2), (3, .int x3)]) (st' := [.int x3, .int x2, .ref a0]) rfl ?_
  have eA : lv_args 0 (.ref a0 :: [.int x3, .int x2].reverse) = [(0, .ref a0), (1, .int x2), (2, .int x3)] := by simp [lv_args, vc_i, vc_l, vc_r, vc_n, vc_a]
  refine wp_callV (ar := [.int x3, .int x2]) (rest := []) (s1 := s1) (s2 := s2) (d' := d) ⟨rfl, rfl⟩ rfl (Or.inl rfl)  (by simp [re_cat, vc_i, vc_l, vc_r, vc_n, vc_a]) (by rw [show re_cat (.ref a0 :: [.int x3, .int x2].reverse) = 3 from by simp [re_cat, vc_i, vc_l, vc_r, vc_n, vc_a]]; decide) (by decide) rfl eg ec rfl hs ?_
  rw [eA]
  exact wp_mono K (fun k v h' z => wp_ret_weak (re_sb_nil _) z)
set_option maxRecDepth 20000 in
theorem B580_329 {SC : List Value} {d s : Nat} {h : re_H} {Q : Nat → Value → re_H → Prop} {ls0 : Int64}
    (K : Q 2 (.long ls0) h) : wp SC 580 d s 329 [] [.long ls0] h Q := by
  exact wp_retl ⟨rfl, rfl⟩ rfl K
set_option maxRecDepth 20000 in
theorem B580_330 {SC : List Value} {d s : Nat} {h : re_H} {Q : Nat → Value → re_H → Prop} {a0 : Nat} {x2 : Int32}
    {c : Nat} {w : List Value} (eg : re_hg h a0 = some (c, w)) (ec : c = 0) {s1 s2 : Nat} (hs : s1 + s2 ≤ s) (K : wp SC 36 d s1 0 [(0, .ref a0), (1, .int x2)] [] h (wp_ret SC 580 (d + 1) s2 335 [] [] Q)) : wp SC 580 (d + 1) s 330 [(0, .ref a0), (2, .int x2)] [] h Q := by
  refine wp_run 2 (pc' := 332) (lv' := [(0, .ref a0), (2, .int x2)]) (st' := [.int x2, .ref a0]) rfl ?_
  have eA : lv_args 0 (.ref a0 :: [.int x2].reverse) = [(0, .ref a0), (1, .int x2)] := by simp [lv_args, vc_i, vc_l, vc_r, vc_n, vc_a]
  refine wp_callV (ar := [.int x2]) (rest := []) (s1 := s1) (s2 := s2) (d' := d) ⟨rfl, rfl⟩ rfl (Or.inl rfl)  (by simp [re_cat, vc_i, vc_l, vc_r, vc_n, vc_a]) (by rw [show re_cat (.ref a0 :: [.int x2].reverse) = 2 from by simp [re_cat, vc_i, vc_l, vc_r, vc_n, vc_a]]; decide) (by decide) rfl eg ec rfl hs ?_
  rw [eA]
  exact wp_mono K (fun k v h' z => wp_ret_weak (re_sb_nil _) z)
set_option maxRecDepth 20000 in
theorem B580_335 {SC : List Value} {d s : Nat} {h : re_H} {Q : Nat → Value → re_H → Prop} {xs0 : Int32}
    (K : Q 2 (.long xs0.toInt64) h) : wp SC 580 d s 335 [] [.int xs0] h Q := by
  refine wp_run 1 (pc' := 336) (lv' := []) (st' := [.long xs0.toInt64]) rfl ?_
  exact wp_retl ⟨rfl, rfl⟩ rfl K
set_option maxRecDepth 20000 in
theorem B580_337 {SC : List Value} {d s : Nat} {h : re_H} {Q : Nat → Value → re_H → Prop} {a0 : Nat} {x2 : Int32}
    {c : Nat} {w : List Value} (eg : re_hg h a0 = some (c, w)) (ec : c = 0) {s1 s2 : Nat} (hs : s1 + s2 ≤ s) (K : wp SC 37 d s1 0 [(0, .ref a0), (1, .int x2)] [] h (wp_ret SC 580 (d + 1) s2 342 [] [] Q)) : wp SC 580 (d + 1) s 337 [(0, .ref a0), (2, .int x2)] [] h Q := by
  refine wp_run 2 (pc' := 339) (lv' := [(0, .ref a0), (2, .int x2)]) (st' := [.int x2, .ref a0]) rfl ?_
  have eA : lv_args 0 (.ref a0 :: [.int x2].reverse) = [(0, .ref a0), (1, .int x2)] := by simp [lv_args, vc_i, vc_l, vc_r, vc_n, vc_a]
  refine wp_callV (ar := [.int x2]) (rest := []) (s1 := s1) (s2 := s2) (d' := d) ⟨rfl, rfl⟩ rfl (Or.inl rfl)  (by simp [re_cat, vc_i, vc_l, vc_r, vc_n, vc_a]) (by rw [show re_cat (.ref a0 :: [.int x2].reverse) = 2 from by simp [re_cat, vc_i, vc_l, vc_r, vc_n, vc_a]]; decide) (by decide) rfl eg ec rfl hs ?_
  rw [eA]
  exact wp_mono K (fun k v h' z => wp_ret_weak (re_sb_nil _) z)
set_option maxRecDepth 20000 in
theorem B580_342 {SC : List Value} {d s : Nat} {h : re_H} {Q : Nat → Value → re_H → Prop} {xs0 : Int32}
    (K : Q 2 (.long xs0.toInt64) h) : wp SC 580 d s 342 [] [.int xs0] h Q := by
  refine wp_run 1 (pc' := 343) (lv' := []) (st' := [.long xs0.toInt64]) rfl ?_
  exact wp_retl ⟨rfl, rfl⟩ rfl K
set_option maxRecDepth 20000 in
theorem B580_344 {SC : List Value} {d s : Nat} {h : re_H} {Q : Nat → Value → re_H → Prop} {a0 : Nat} {x2 : Int32}
    {c : Nat} {w : List Value} (eg : re_hg h a0 = some (c, w)) (ec : c = 0) {s1 s2 : Nat} (hs : s1 + s2 ≤ s) (K : wp SC 38 d s1 0 [(0, .ref a0), (1, .int x2)] [] h (wp_ret SC 580 (d + 1) s2 349 [] [] Q)) : wp SC 580 (d + 1) s 344 [(0, .ref a0), (2, .int x2)] [] h Q := by
  refine wp_run 2 (pc' := 346) (lv' := [(0, .ref a0), (2, .int x2)]) (st' := [.int x2, .ref a0]) rfl ?_
  have eA : lv_args 0 (.ref a0 :: [.int x2].reverse) = [(0, .ref a0), (1, .int x2)] := by simp [lv_args, vc_i, vc_l, vc_r, vc_n, vc_a]
  refine wp_callV (ar := [.int x2]) (rest := []) (s1 := s1) (s2 := s2) (d' := d) ⟨rfl, rfl⟩ rfl (Or.inl rfl)  (by simp [re_cat, vc_i, vc_l, vc_r, vc_n, vc_a]) (by rw [show re_cat (.ref a0 :: [.int x2].reverse) = 2 from by simp [re_cat, vc_i, vc_l, vc_r, vc_n, vc_a]]; decide) (by decide) rfl eg ec rfl hs ?_
  rw [eA]
  exact wp_mono K (fun k v h' z => wp_ret_weak (re_sb_nil _) z)
set_option maxRecDepth 20000 in
theorem B580_349 {SC : List Value} {d s : Nat} {h : re_H} {Q : Nat → Value → re_H → Prop} {xs0 : Int32}
    (K : Q 2 (.long xs0.toInt64) h) : wp SC 580 d s 349 [] [.int xs0] h Q := by
  refine wp_run 1 (pc' := 350) (lv' := []) (st' := [.long xs0.toInt64]) rfl ?_
  exact wp_retl ⟨rfl, rfl⟩ rfl K
set_option maxRecDepth 20000 in
theorem B580_351 {SC : List Value} {d s : Nat} {h : re_H} {Q : Nat → Value → re_H → Prop} {a0 : Nat} {x2 : Int32}
    {c : Nat} {w : List Value} (eg : re_hg h a0 = some (c, w)) (ec : c = 0) {s1 s2 : Nat} (hs : s1 + s2 ≤ s) (K : wp SC 39 d s1 0 [(0, .ref a0), (1, .int x2)] [] h (wp_ret SC 580 (d + 1) s2 356 [] [] Q)) : wp SC 580 (d + 1) s 351 [(0, .ref a0), (2, .int x2)] [] h Q := by
  refine wp_run 2 (pc' := 353) (lv' := [(0, .ref a0), (2, .int x2)]) (st' := [.int x2, .ref a0]) rfl ?_
  have eA : lv_args 0 (.ref a0 :: [.int x2].reverse) = [(0, .ref a0), (1, .int x2)] := by simp [lv_args, vc_i, vc_l, vc_r, vc_n, vc_a]
  refine wp_callV (ar := [.int x2]) (rest := []) (s1 := s1) (s2 := s2) (d' := d) ⟨rfl, rfl⟩ rfl (Or.inl rfl)  (by simp [re_cat, vc_i, vc_l, vc_r, vc_n, vc_a]) (by rw [show re_cat (.ref a0 :: [.int x2].reverse) = 2 from by simp [re_cat, vc_i, vc_l, vc_r, vc_n, vc_a]]; decide) (by decide) rfl eg ec rfl hs ?_
  rw [eA]
  exact wp_mono K (fun k v h' z => wp_ret_weak (re_sb_nil _) z)
set_option maxRecDepth 20000 in
theorem B580_356 {SC : List Value} {d s : Nat} {h : re_H} {Q : Nat → Value → re_H → Prop} {xs0 : Int32}
    (K : Q 2 (.long xs0.toInt64) h) : wp SC 580 d s 356 [] [.int xs0] h Q := by
  refine wp_run 1 (pc' := 357) (lv' := []) (st' := [.long xs0.toInt64]) rfl ?_
  exact wp_retl ⟨rfl, rfl⟩ rfl K
theorem B581_0 {SC : List Value} {d s : Nat} {h : re_H} {Q : Nat → Value → re_H → Prop} {a0 : Nat} {a1 : Nat} {x2 : Int32} {x3 : Int32} {x4 : Int32}
    (K : wp SC 579 d 0 0 [(0, .ref a0), (1, .int x2), (2, .int x3), (3, .int x4)] [] h (wp_ret SC 581 (d + 1) s 8 [(1, .ref a1), (2, .int x2), (3, .int x3), (4, .int x4)] [] Q)) : wp SC 581 (d + 1) s 0 [(0, .ref a0), (1, .ref a1), (2, .int x2), (3, .int x3), (4, .int x4)] [] h Q := by
  refine wp_run 4 (pc' := 5) (lv' := [(0, .ref a0), (1, .ref a1), (2, .int x2), (3, .int x3), (4, .int x4)]) (st' := [.int x4, .int x3, .int x2, .ref a0]) rfl ?_
  have eA : lv_args 0 ([.int x4, .int x3, .int x2, .ref a0].reverse) = [(0, .ref a0), (1, .int x2), (2, .int x3), (3, .int x4)] := by simp [lv_args, vc_i, vc_l, vc_r, vc_n, vc_a]
  refine wp_callS (ar := [.int x4, .int x3, .int x2, .ref a0]) (rest := []) (s1 := 0) (s2 := s) (d' := d) ⟨rfl, rfl⟩ rfl (Or.inr (Or.inr rfl)) rfl (by simp [re_cat, vc_i, vc_l, vc_r, vc_n, vc_a]) (by rw [show re_cat ([.int x4, .int x3, .int x2, .ref a0].reverse) = 4 from by simp [re_cat, vc_i, vc_l, vc_r, vc_n, vc_a]]; decide) (by decide) rfl rfl (Nat.le_of_eq (Nat.zero_add s)) ?_
  rw [eA]
  exact wp_mono K (fun k v h' z => wp_ret_weak (re_sb_at rfl (re_sb_at rfl (re_sb_at rfl (re_sb_at rfl (re_sb_nil _))))) z)
theorem B581_8 {SC : List Value} {d s : Nat} {h : re_H} {Q : Nat → Value → re_H → Prop} {a1 : Nat} {x2 : Int32} {x3 : Int32} {x4 : Int32} {ls0 : Int64}
    (K : wp SC 579 d 0 0 [(0, .ref a1), (1, .int x2), (2, .int x3), (3, .int x4)] [] h (wp_ret SC 581 (d + 1) s 20 [(5, .long ls0)] [.long ls0] Q)) : wp SC 581 (d + 1) s 8 [(1, .ref a1), (2, .int x2), (3, .int x3), (4, .int x4)] [.long ls0] h Q := by
  refine wp_run 6 (pc' := 17) (lv' := [(5, .long ls0), (1, .ref a1), (2, .int x2), (3, .int x3), (4, .int x4)]) (st' := [.int x4, .int x3, .int x2, .ref a1, .long ls0]) rfl ?_
  have eA : lv_args 0 ([.int x4, .int x3, .int x2, .ref a1].reverse) = [(0, .ref a1), (1, .int x2), (2, .int x3), (3, .int x4)] := by simp [lv_args, vc_i, vc_l, vc_r, vc_n, vc_a]
  refine wp_callS (ar := [.int x4, .int x3, .int x2, .ref a1]) (rest := [.long ls0]) (s1 := 0) (s2 := s) (d' := d) ⟨rfl, rfl⟩ rfl (Or.inr (Or.inr rfl)) rfl (by simp [re_cat, vc_i, vc_l, vc_r, vc_n, vc_a]) (by rw [show re_cat ([.int x4, .int x3, .int x2, .ref a1].reverse) = 4 from by simp [re_cat, vc_i, vc_l, vc_r, vc_n, vc_a]]; decide) (by decide) rfl rfl (Nat.le_of_eq (Nat.zero_add s)) ?_
  rw [eA]
  exact wp_mono K (fun k v h' z => wp_ret_weak (re_sb_at rfl (re_sb_nil _)) z)
theorem B581_20 {SC : List Value} {d s : Nat} {h : re_H} {Q : Nat → Value → re_H → Prop} {l5 : Int64} {ls0 : Int64} {ls1 : Int64}
    (K1 : ¬ ls1 = ls0 → wp SC 581 d s 29 [] [] h Q) (K2 : ls1 = ls0 → wp SC 581 d s 24 [(5, .long l5)] [] h Q) : wp SC 581 d s 20 [(5, .long l5)] [.long ls0, .long ls1] h Q := by
  refine wp_run 1 (pc' := 21) (lv' := [(5, .long l5)]) (st' := [.int (lg_cmp ls1 ls0)]) rfl ?_
  exact wp_if ⟨rfl, rfl⟩ rfl (fun hc => wp_weak (re_sb_nil _) (K1 (lc1_ne hc))) (fun hc => wp_weak (re_sb_at rfl (re_sb_nil _)) (K2 (lc0_ne hc)))
theorem B581_24 {SC : List Value} {d s : Nat} {h : re_H} {Q : Nat → Value → re_H → Prop} {l5 : Int64}
    (K : wp SC 581 d s 32 [] [.long l5] h Q) : wp SC 581 d s 24 [(5, .long l5)] [] h Q := by
  refine wp_run 2 (pc' := 32) (lv' := [(5, .long l5)]) (st' := [.long l5]) rfl ?_
  exact wp_weak (re_sb_nil _) K
theorem B581_29 {SC : List Value} {d s : Nat} {h : re_H} {Q : Nat → Value → re_H → Prop} 
    (K : wp SC 581 d s 32 [] [.long (-2000000099)] h Q) : wp SC 581 d s 29 [] [] h Q := by
  refine wp_cst (pc' := 32) (v := .long (-2000000099)) ⟨rfl, rfl⟩ rfl rfl rfl rfl rfl ?_
  exact wp_weak (re_sb_nil _) K
theorem B581_32 {SC : List Value} {d s : Nat} {h : re_H} {Q : Nat → Value → re_H → Prop} {ls0 : Int64}
    (K : Q 2 (.long ls0) h) : wp SC 581 d s 32 [] [.long ls0] h Q := by
  exact wp_retl ⟨rfl, rfl⟩ rfl K
