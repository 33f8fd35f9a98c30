set_option maxRecDepth 20000 in
theorem L586_0 {SC : List Value} {d s : Nat} {h : re_H} {Q : Nat → Value → re_H → Prop} {a0 : Nat} {a1 : Nat} {a2 : Nat} {x3 : Int32} {x4 : Int32}
    (K : wp SC 577 d 0 0 [(0, .int x3), (1, .int (i32 8))] [] h (wp_ret SC 586 (d + 1) s 6 [(0, .ref a0), (1, .ref a1), (2, .ref a2), (4, .int x4)] [] Q)) : wp SC 586 (d + 1) s 0 [(0, .ref a0), (1, .ref a1), (2, .ref a2), (3, .int x3), (4, .int x4)] [] h Q := by
  refine wp_run 1 (pc' := 1) (lv' := [(0, .ref a0), (1, .ref a1), (2, .ref a2), (3, .int x3), (4, .int x4)]) (st' := [.int x3]) rfl ?_
  refine wp_bi (x := (i32 8)) ⟨rfl, rfl⟩ (by decide) ?_
  have eA : lv_args 0 ([.int (i32 8), .int x3].reverse) = [(0, .int x3), (1, .int (i32 8))] := by simp [lv_args, vc_i, vc_l, vc_r, vc_n, vc_a]
  refine wp_callS (ar := [.int (i32 8), .int x3]) (rest := []) (s1 := 0) (s2 := s) (d' := d) ⟨rfl, rfl⟩ rfl (Or.inl rfl) rfl (by simp [re_cat, vc_i, vc_l, vc_r, vc_n, vc_a]) (by rw [show re_cat ([.int (i32 8), .int x3].reverse) = 2 from by simp [re_cat, vc_i, vc_l, vc_r, vc_n, vc_a]]; decide) (by decide) rfl rfl (Nat.le_of_eq (Nat.zero_add s)) ?_
  rw [eA]
  exact wp_mono K (fun k v h' z => wp_ret_weak (re_sb_at rfl (re_sb_at rfl (re_sb_at rfl (re_sb_at rfl (re_sb_nil _))))) z)
set_option maxRecDepth 20000 in
theorem L586_6 {SC : List Value} {d s : Nat} {h : re_H} {Q : Nat → Value → re_H → Prop} {a0 : Nat} {a1 : Nat} {a2 : Nat} {x4 : Int32} {xs0 : Int32}
    {xe1 : Int32} (e2 : nb_ar h a2 100 (i32 1) (.int xe1)) (K : wp SC 577 d 0 0 [(0, .int x4), (1, .int (xe1 + (i32 1)))] [] h (wp_ret SC 586 (d + 1) s 18 [(0, .ref a0), (1, .ref a1), (2, .ref a2), (4, .int x4), (5, .int xs0)] [] Q)) : wp SC 586 (d + 1) s 6 [(0, .ref a0), (1, .ref a1), (2, .ref a2), (4, .int x4)] [.int xs0] h Q := by
  refine wp_run 4 (pc' := 12) (lv' := [(5, .int xs0), (0, .ref a0), (1, .ref a1), (2, .ref a2), (4, .int x4)]) (st' := [.int (i32 1), .ref a2, .int x4]) rfl ?_
  obtain ⟨w2, i2, e2a, e2x, e2i, e2v⟩ := e2
  refine wp_ial ⟨rfl, rfl⟩ e2a rfl e2x e2i e2v ?_
  refine wp_run 2 (pc' := 15) (lv' := [(5, .int xs0), (0, .ref a0), (1, .ref a1), (2, .ref a2), (4, .int x4)]) (st' := [.int (xe1 + (i32 1)), .int x4]) rfl ?_
  have eA : lv_args 0 ([.int (xe1 + (i32 1)), .int x4].reverse) = [(0, .int x4), (1, .int (xe1 + (i32 1)))] := by simp [lv_args, vc_i, vc_l, vc_r, vc_n, vc_a]
  refine wp_callS (ar := [.int (xe1 + (i32 1)), .int x4]) (rest := []) (s1 := 0) (s2 := s) (d' := d) ⟨rfl, rfl⟩ rfl (Or.inl rfl) rfl (by simp [re_cat, vc_i, vc_l, vc_r, vc_n, vc_a]) (by rw [show re_cat ([.int (xe1 + (i32 1)), .int x4].reverse) = 2 from by simp [re_cat, vc_i, vc_l, vc_r, vc_n, vc_a]]; decide) (by decide) rfl rfl (Nat.le_of_eq (Nat.zero_add s)) ?_
  rw [eA]
  exact wp_mono K (fun k v h' z => wp_ret_weak (re_sb_at rfl (re_sb_at rfl (re_sb_at rfl (re_sb_at rfl (re_sb_at rfl (re_sb_nil _)))))) z)
set_option maxRecDepth 20000 in
theorem L586_18 {SC : List Value} {d s : Nat} {h : re_H} {Q : Nat → Value → re_H → Prop} {a0 : Nat} {a1 : Nat} {a2 : Nat} {x4 : Int32} {x5 : Int32} {xs0 : Int32}
    (K1 : ¬ x5 < (i32 2) → wp SC 586 d s 114 [(0, .ref a0), (1, .ref a1), (2, .ref a2), (4, .int x4), (5, .int x5), (6, .int xs0)] [] h Q) (K2 : x5 < (i32 2) → wp SC 586 d s 26 [(0, .ref a0), (1, .ref a1), (4, .int x4)] [] h Q) : wp SC 586 d s 18 [(0, .ref a0), (1, .ref a1), (2, .ref a2), (4, .int x4), (5, .int x5)] [.int xs0] h Q := by
  refine wp_run 3 (pc' := 23) (lv' := [(6, .int xs0), (0, .ref a0), (1, .ref a1), (2, .ref a2), (4, .int x4), (5, .int x5)]) (st' := [.int (i32 2), .int x5]) rfl ?_
  exact wp_cmp ⟨rfl, rfl⟩ rfl (fun hc => wp_weak (re_sb_at rfl (re_sb_at rfl (re_sb_at rfl (re_sb_at rfl (re_sb_at rfl (re_sb_at rfl (re_sb_nil _))))))) (K1 (ic1_ge hc))) (fun hc => wp_weak (re_sb_at rfl (re_sb_at rfl (re_sb_at rfl (re_sb_nil _)))) (K2 (ic0_ge hc)))
set_option maxRecDepth 20000 in
theorem L586_26 {SC : List Value} {d s : Nat} {h : re_H} {Q : Nat → Value → re_H → Prop} {a0 : Nat} {a1 : Nat} {x4 : Int32}
    (K : wp SC 577 d 0 0 [(0, .int x4), (1, .int (i32 4))] [] h (wp_ret SC 586 (d + 1) s 32 [(0, .ref a0), (1, .ref a1), (4, .int x4)] [] Q)) : wp SC 586 (d + 1) s 26 [(0, .ref a0), (1, .ref a1), (4, .int x4)] [] h Q := by
  refine wp_run 2 (pc' := 29) (lv' := [(0, .ref a0), (1, .ref a1), (4, .int x4)]) (st' := [.int (i32 4), .int x4]) rfl ?_
  have eA : lv_args 0 ([.int (i32 4), .int x4].reverse) = [(0, .int x4), (1, .int (i32 4))] := by simp [lv_args, vc_i, vc_l, vc_r, vc_n, vc_a]
  refine wp_callS (ar := [.int (i32 4), .int x4]) (rest := []) (s1 := 0) (s2 := s) (d' := d) ⟨rfl, rfl⟩ rfl (Or.inl rfl) rfl (by simp [re_cat, vc_i, vc_l, vc_r, vc_n, vc_a]) (by rw [show re_cat ([.int (i32 4), .int x4].reverse) = 2 from by simp [re_cat, vc_i, vc_l, vc_r, vc_n, vc_a]]; decide) (by decide) rfl rfl (Nat.le_of_eq (Nat.zero_add s)) ?_
  rw [eA]
  exact wp_mono K (fun k v h' z => wp_ret_weak (re_sb_at rfl (re_sb_at rfl (re_sb_at rfl (re_sb_nil _)))) z)
set_option maxRecDepth 20000 in
theorem L586_32 {SC : List Value} {d s : Nat} {h : re_H} {Q : Nat → Value → re_H → Prop} {a0 : Nat} {a1 : Nat} {x4 : Int32} {xs0 : Int32}
    (K : wp SC 577 d 0 0 [(0, .int (x4 >>> ((i32 3) &&& 31))), (1, .int (i32 4))] [] h (wp_ret SC 586 (d + 1) s 48 [(0, .ref a0), (1, .ref a1), (4, .int x4), (7, .int xs0)] [.int xs0, .int (i32 14), .ref a1, .ref a0] Q)) : wp SC 586 (d + 1) s 32 [(0, .ref a0), (1, .ref a1), (4, .int x4)] [.int xs0] h Q := by
  refine wp_run 3 (pc' := 36) (lv' := [(7, .int xs0), (0, .ref a0), (1, .ref a1), (4, .int x4)]) (st' := [.ref a1, .ref a0]) rfl ?_
  refine wp_bi (x := (i32 14)) ⟨rfl, rfl⟩ (by decide) ?_
  refine wp_run 5 (pc' := 45) (lv' := [(7, .int xs0), (0, .ref a0), (1, .ref a1), (4, .int x4)]) (st' := [.int (i32 4), .int (x4 >>> ((i32 3) &&& 31)), .int xs0, .int (i32 14), .ref a1, .ref a0]) rfl ?_
  have eA : lv_args 0 ([.int (i32 4), .int (x4 >>> ((i32 3) &&& 31))].reverse) = [(0, .int (x4 >>> ((i32 3) &&& 31))), (1, .int (i32 4))] := by simp [lv_args, vc_i, vc_l, vc_r, vc_n, vc_a]
  refine wp_callS (ar := [.int (i32 4), .int (x4 >>> ((i32 3) &&& 31))]) (rest := [.int xs0, .int (i32 14), .ref a1, .ref a0]) (s1 := 0) (s2 := s) (d' := d) ⟨rfl, rfl⟩ rfl (Or.inl rfl) rfl (by simp [re_cat, vc_i, vc_l, vc_r, vc_n, vc_a]) (by rw [show re_cat ([.int (i32 4), .int (x4 >>> ((i32 3) &&& 31))].reverse) = 2 from by simp [re_cat, vc_i, vc_l, vc_r, vc_n, vc_a]]; decide) (by decide) rfl rfl (Nat.le_of_eq (Nat.zero_add s)) ?_
  rw [eA]
  exact wp_mono K (fun k v h' z => wp_ret_weak (re_sb_at rfl (re_sb_at rfl (re_sb_at rfl (re_sb_at rfl (re_sb_nil _))))) z)
set_option maxRecDepth 20000 in
theorem L586_48 {SC : List Value} {d s : Nat} {h : re_H} {Q : Nat → Value → re_H → Prop} {a0 : Nat} {a1 : Nat} {x4 : Int32} {x7 : Int32} {xs0 : Int32} {xs1 : Int32} {xs2 : Int32} {as3 : Nat} {as4 : Nat}
    {s1 s2 : Nat} (hs : s1 + s2 ≤ s) (K : wp SC 581 d s1 0 [(0, .ref as4), (1, .ref as3), (2, .int xs2), (3, .int xs1), (4, .int xs0)] [] h (wp_ret SC 586 (d + 1) s2 51 [(0, .ref a0), (1, .ref a1), (4, .int x4), (7, .int x7)] [] Q)) : wp SC 586 (d + 1) s 48 [(0, .ref a0), (1, .ref a1), (4, .int x4), (7, .int x7)] [.int xs0, .int xs1, .int xs2, .ref as3, .ref as4] h Q := by
  have eA : lv_args 0 ([.int xs0, .int xs1, .int xs2, .ref as3, .ref as4].reverse) = [(0, .ref as4), (1, .ref as3), (2, .int xs2), (3, .int xs1), (4, .int xs0)] := by simp [lv_args, vc_i, vc_l, vc_r, vc_n, vc_a]
  refine wp_callS (ar := [.int xs0, .int xs1, .int xs2, .ref as3, .ref as4]) (rest := []) (s1 := s1) (s2 := s2) (d' := d) ⟨rfl, rfl⟩ rfl (Or.inl rfl) rfl (by simp [re_cat, vc_i, vc_l, vc_r, vc_n, vc_a]) (by rw [show re_cat ([.int xs0, .int xs1, .int xs2, .ref as3, .ref as4].reverse) = 5 from by simp [re_cat, vc_i, vc_l, vc_r, vc_n, vc_a]]; decide) (by decide) rfl rfl hs ?_
  rw [eA]
  exact wp_mono K (fun k v h' z => wp_ret_weak (re_sb_at rfl (re_sb_at rfl (re_sb_at rfl (re_sb_at rfl (re_sb_nil _))))) z)
set_option maxRecDepth 20000 in
theorem L586_51 {SC : List Value} {d s : Nat} {h : re_H} {Q : Nat → Value → re_H → Prop} {a0 : Nat} {a1 : Nat} {x4 : Int32} {x7 : Int32} {ls0 : Int64}
    (K1 : ls0 < (0) → wp SC 586 d s 112 [] [] h Q) (K2 : ¬ ls0 < (0) → wp SC 586 d s 60 [(0, .ref a0), (1, .ref a1), (4, .int x4), (7, .int x7), (8, .long ls0)] [] h Q) : wp SC 586 d s 51 [(0, .ref a0), (1, .ref a1), (4, .int x4), (7, .int x7)] [.long ls0] h Q := by
  refine wp_run 4 (pc' := 57) (lv' := [(8, .long ls0), (0, .ref a0), (1, .ref a1), (4, .int x4), (7, .int x7)]) (st' := [.int (lg_cmp ls0 (0))]) rfl ?_
  exact wp_if ⟨rfl, rfl⟩ rfl (fun hc => wp_weak (re_sb_nil _) (K1 (lc1_lt hc))) (fun hc => wp_weak (re_sb_at rfl (re_sb_at rfl (re_sb_at rfl (re_sb_at rfl (re_sb_at rfl (re_sb_nil _)))))) (K2 (lc0_lt hc)))
set_option maxRecDepth 20000 in
theorem L586_60 {SC : List Value} {d s : Nat} {h : re_H} {Q : Nat → Value → re_H → Prop} {a0 : Nat} {a1 : Nat} {x4 : Int32} {x7 : Int32} {l8 : Int64}
    {s1 s2 : Nat} (hs : s1 + s2 ≤ s) (K : wp SC 581 d s1 0 [(0, .ref a0), (1, .ref a1), (2, .int (i32 14)), (3, .int x7), (4, .int l8.toInt32)] [] h (wp_ret SC 586 (d + 1) s2 72 [(0, .ref a0), (1, .ref a1), (4, .int x4), (7, .int x7), (8, .long l8)] [] Q)) : wp SC 586 (d + 1) s 60 [(0, .ref a0), (1, .ref a1), (4, .int x4), (7, .int x7), (8, .long l8)] [] h Q := by
  refine wp_run 2 (pc' := 62) (lv' := [(0, .ref a0), (1, .ref a1), (4, .int x4), (7, .int x7), (8, .long l8)]) (st' := [.ref a1, .ref a0]) rfl ?_
  refine wp_bi (x := (i32 14)) ⟨rfl, rfl⟩ (by decide) ?_
  refine wp_run 3 (pc' := 69) (lv' := [(0, .ref a0), (1, .ref a1), (4, .int x4), (7, .int x7), (8, .long l8)]) (st' := [.int l8.toInt32, .int x7, .int (i32 14), .ref a1, .ref a0]) rfl ?_
  have eA : lv_args 0 ([.int l8.toInt32, .int x7, .int (i32 14), .ref a1, .ref a0].reverse) = [(0, .ref a0), (1, .ref a1), (2, .int (i32 14)), (3, .int x7), (4, .int l8.toInt32)] := by simp [lv_args, vc_i, vc_l, vc_r, vc_n, vc_a]
  refine wp_callS (ar := [.int l8.toInt32, .int x7, .int (i32 14), .ref a1, .ref a0]) (rest := []) (s1 := s1) (s2 := s2) (d' := d) ⟨rfl, rfl⟩ rfl (Or.inl rfl) rfl (by simp [re_cat, vc_i, vc_l, vc_r, vc_n, vc_a]) (by rw [show re_cat ([.int l8.toInt32, .int x7, .int (i32 14), .ref a1, .ref a0].reverse) = 5 from by simp [re_cat, vc_i, vc_l, vc_r, vc_n, vc_a]]; decide) (by decide) rfl rfl hs ?_
  rw [eA]
  exact wp_mono K (fun k v h' z => wp_ret_weak (re_sb_at rfl (re_sb_at rfl (re_sb_at rfl (re_sb_at rfl (re_sb_at rfl (re_sb_nil _)))))) z)
set_option maxRecDepth 20000 in
theorem L586_72 {SC : List Value} {d s : Nat} {h : re_H} {Q : Nat → Value → re_H → Prop} {a0 : Nat} {a1 : Nat} {x4 : Int32} {x7 : Int32} {l8 : Int64} {ls0 : Int64}
    (K : wp SC 577 d 0 0 [(0, .int (x4 >>> ((i32 3) &&& 31))), (1, .int (i32 4))] [] h (wp_ret SC 586 (d + 1) s 80 [(0, .ref a0), (1, .ref a1), (4, .int x4), (7, .int x7), (8, .long l8)] [.long ls0] Q)) : wp SC 586 (d + 1) s 72 [(0, .ref a0), (1, .ref a1), (4, .int x4), (7, .int x7), (8, .long l8)] [.long ls0] h Q := by
  refine wp_run 4 (pc' := 77) (lv' := [(0, .ref a0), (1, .ref a1), (4, .int x4), (7, .int x7), (8, .long l8)]) (st' := [.int (i32 4), .int (x4 >>> ((i32 3) &&& 31)), .long ls0]) rfl ?_
  have eA : lv_args 0 ([.int (i32 4), .int (x4 >>> ((i32 3) &&& 31))].reverse) = [(0, .int (x4 >>> ((i32 3) &&& 31))), (1, .int (i32 4))] := by simp [lv_args, vc_i, vc_l, vc_r, vc_n, vc_a]
  refine wp_callS (ar := [.int (i32 4), .int (x4 >>> ((i32 3) &&& 31))]) (rest := [.long ls0]) (s1 := 0) (s2 := s) (d' := d) ⟨rfl, rfl⟩ rfl (Or.inl rfl) rfl (by simp [re_cat, vc_i, vc_l, vc_r, vc_n, vc_a]) (by rw [show re_cat ([.int (i32 4), .int (x4 >>> ((i32 3) &&& 31))].reverse) = 2 from by simp [re_cat, vc_i, vc_l, vc_r, vc_n, vc_a]]; decide) (by decide) rfl rfl (Nat.le_of_eq (Nat.zero_add s)) ?_
  rw [eA]
  exact wp_mono K (fun k v h' z => wp_ret_weak (re_sb_at rfl (re_sb_at rfl (re_sb_at rfl (re_sb_at rfl (re_sb_at rfl (re_sb_nil _)))))) z)
set_option maxRecDepth 20000 in
theorem L586_80 {SC : List Value} {d s : Nat} {h : re_H} {Q : Nat → Value → re_H → Prop} {a0 : Nat} {a1 : Nat} {x4 : Int32} {x7 : Int32} {l8 : Int64} {xs0 : Int32} {ls1 : Int64}
    (K1 : ¬ ls1 = xs0.toInt64 → wp SC 586 d s 112 [] [] h Q) (K2 : ls1 = xs0.toInt64 → wp SC 586 d s 85 [(0, .ref a0), (1, .ref a1), (4, .int x4), (7, .int x7), (8, .long l8)] [] h Q) : wp SC 586 d s 80 [(0, .ref a0), (1, .ref a1), (4, .int x4), (7, .int x7), (8, .long l8)] [.int xs0, .long ls1] h Q := by
  refine wp_run 2 (pc' := 82) (lv' := [(0, .ref a0), (1, .ref a1), (4, .int x4), (7, .int x7), (8, .long l8)]) (st' := [.int (lg_cmp ls1 xs0.toInt64)]) rfl ?_
  exact wp_if ⟨rfl, rfl⟩ rfl (fun hc => wp_weak (re_sb_nil _) (K1 (lc1_ne hc))) (fun hc => wp_weak (re_sb_at rfl (re_sb_at rfl (re_sb_at rfl (re_sb_at rfl (re_sb_at rfl (re_sb_nil _)))))) (K2 (lc0_ne hc)))
set_option maxRecDepth 20000 in
theorem L586_85 {SC : List Value} {d s : Nat} {h : re_H} {Q : Nat → Value → re_H → Prop} {a0 : Nat} {a1 : Nat} {x4 : Int32} {x7 : Int32} {l8 : Int64}
    (K : wp SC 577 d 0 0 [(0, .int (x4 >>> ((i32 3) &&& 31))), (1, .int (i32 4))] [] h (wp_ret SC 586 (d + 1) s 99 [(8, .long l8)] [.int x7, .int (i32 14), .ref a1, .ref a0] Q)) : wp SC 586 (d + 1) s 85 [(0, .ref a0), (1, .ref a1), (4, .int x4), (7, .int x7), (8, .long l8)] [] h Q := by
  refine wp_run 2 (pc' := 87) (lv' := [(0, .ref a0), (1, .ref a1), (4, .int x4), (7, .int x7), (8, .long l8)]) (st' := [.ref a1, .ref a0]) rfl ?_
  refine wp_bi (x := (i32 14)) ⟨rfl, rfl⟩ (by decide) ?_
  refine wp_run 5 (pc' := 96) (lv' := [(0, .ref a0), (1, .ref a1), (4, .int x4), (7, .int x7), (8, .long l8)]) (st' := [.int (i32 4), .int (x4 >>> ((i32 3) &&& 31)), .int x7, .int (i32 14), .ref a1, .ref a0]) rfl ?_
  have eA : lv_args 0 ([.int (i32 4), .int (x4 >>> ((i32 3) &&& 31))].reverse) = [(0, .int (x4 >>> ((i32 3) &&& 31))), (1, .int (i32 4))] := by simp [lv_args, vc_i, vc_l, vc_r, vc_n, vc_a]
  refine wp_callS (ar := [.int (i32 4), .int (x4 >>> ((i32 3) &&& 31))]) (rest := [.int x7, .int (i32 14), .ref a1, .ref a0]) (s1 := 0) (s2 := s) (d' := d) ⟨rfl, rfl⟩ rfl (Or.inl rfl) rfl (by simp [re_cat, vc_i, vc_l, vc_r, vc_n, vc_a]) (by rw [show re_cat ([.int (i32 4), .int (x4 >>> ((i32 3) &&& 31))].reverse) = 2 from by simp [re_cat, vc_i, vc_l, vc_r, vc_n, vc_a]]; decide) (by decide) rfl rfl (Nat.le_of_eq (Nat.zero_add s)) ?_
  rw [eA]
  exact wp_mono K (fun k v h' z => wp_ret_weak (re_sb_at rfl (re_sb_nil _)) z)
set_option maxRecDepth 20000 in
theorem L586_99 {SC : List Value} {d s : Nat} {h : re_H} {Q : Nat → Value → re_H → Prop} {l8 : Int64} {xs0 : Int32} {xs1 : Int32} {xs2 : Int32} {as3 : Nat} {as4 : Nat}
    {s1 s2 : Nat} (hs : s1 + s2 ≤ s) (K : wp SC 581 d s1 0 [(0, .ref as4), (1, .ref as3), (2, .int xs2), (3, .int xs1), (4, .int xs0)] [] h (wp_ret SC 586 (d + 1) s2 102 [(8, .long l8)] [] Q)) : wp SC 586 (d + 1) s 99 [(8, .long l8)] [.int xs0, .int xs1, .int xs2, .ref as3, .ref as4] h Q := by
  have eA : lv_args 0 ([.int xs0, .int xs1, .int xs2, .ref as3, .ref as4].reverse) = [(0, .ref as4), (1, .ref as3), (2, .int xs2), (3, .int xs1), (4, .int xs0)] := by simp [lv_args, vc_i, vc_l, vc_r, vc_n, vc_a]
  refine wp_callS (ar := [.int xs0, .int xs1, .int xs2, .ref as3, .ref as4]) (rest := []) (s1 := s1) (s2 := s2) (d' := d) ⟨rfl, rfl⟩ rfl (Or.inl rfl) rfl (by simp [re_cat, vc_i, vc_l, vc_r, vc_n, vc_a]) (by rw [show re_cat ([.int xs0, .int xs1, .int xs2, .ref as3, .ref as4].reverse) = 5 from by simp [re_cat, vc_i, vc_l, vc_r, vc_n, vc_a]]; decide) (by decide) rfl rfl hs ?_
  rw [eA]
  exact wp_mono K (fun k v h' z => wp_ret_weak (re_sb_at rfl (re_sb_nil _)) z)
set_option maxRecDepth 20000 in
theorem L586_102 {SC : List Value} {d s : Nat} {h : re_H} {Q : Nat → Value → re_H → Prop} {l8 : Int64} {ls0 : Int64}
    (K1 : ¬ ls0 = l8 → wp SC 586 d s 112 [] [] h Q) (K2 : ls0 = l8 → wp SC 586 d s 108 [] [] h Q) : wp SC 586 d s 102 [(8, .long l8)] [.long ls0] h Q := by
  refine wp_run 2 (pc' := 105) (lv' := [(8, .long l8)]) (st' := [.int (lg_cmp ls0 l8)]) rfl ?_
  exact wp_if ⟨rfl, rfl⟩ rfl (fun hc => wp_weak (re_sb_nil _) (K1 (lc1_ne hc))) (fun hc => wp_weak (re_sb_nil _) (K2 (lc0_ne hc)))
set_option maxRecDepth 20000 in
theorem L586_108 {SC : List Value} {d s : Nat} {h : re_H} {Q : Nat → Value → re_H → Prop} 
    (K : wp SC 586 d s 113 [] [.int (i32 1)] h Q) : wp SC 586 d s 108 [] [] h Q := by
  refine wp_run 2 (pc' := 113) (lv' := []) (st' := [.int (i32 1)]) rfl ?_
  exact wp_weak (re_sb_nil _) K
set_option maxRecDepth 20000 in
theorem L586_112 {SC : List Value} {d s : Nat} {h : re_H} {Q : Nat → Value → re_H → Prop} 
    (K : wp SC 586 d s 113 [] [.int (i32 0)] h Q) : wp SC 586 d s 112 [] [] h Q := by
  refine wp_run 1 (pc' := 113) (lv' := []) (st' := [.int (i32 0)]) rfl ?_
  exact wp_weak (re_sb_nil _) K
set_option maxRecDepth 20000 in
theorem L586_113 {SC : List Value} {d s : Nat} {h : re_H} {Q : Nat → Value → re_H → Prop} {xs0 : Int32}
    (hz : xs0 = 0 ∨ xs0 = 1) (K : Q 1 (.int xs0) h) : wp SC 586 d s 113 [] [.int xs0] h Q := by
  exact wp_retz ⟨rfl, rfl⟩ rfl hz K
set_option maxRecDepth 20000 in
theorem L586_114 {SC : List Value} {d s : Nat} {h : re_H} {Q : Nat → Value → re_H → Prop} {a0 : Nat} {a1 : Nat} {a2 : Nat} {x4 : Int32} {x5 : Int32} {x6 : Int32}
    (K1 : ¬ x5 < (i32 3) → wp SC 586 d s 145 [(0, .ref a0), (1, .ref a1), (2, .ref a2), (4, .int x4), (5, .int x5), (6, .int x6)] [] h Q) (K2 : x5 < (i32 3) → wp SC 586 d s 120 [(0, .ref a0), (1, .ref a1), (4, .int x4)] [] h Q) : wp SC 586 d s 114 [(0, .ref a0), (1, .ref a1), (2, .ref a2), (4, .int x4), (5, .int x5), (6, .int x6)] [] h Q := by
  refine wp_run 2 (pc' := 117) (lv' := [(0, .ref a0), (1, .ref a1), (2, .ref a2), (4, .int x4), (5, .int x5), (6, .int x6)]) (st' := [.int (i32 3), .int x5]) rfl ?_
  exact wp_cmp ⟨rfl, rfl⟩ rfl (fun hc => wp_weak (re_sb_at rfl (re_sb_at rfl (re_sb_at rfl (re_sb_at rfl (re_sb_at rfl (re_sb_at rfl (re_sb_nil _))))))) (K1 (ic1_ge hc))) (fun hc => wp_weak (re_sb_at rfl (re_sb_at rfl (re_sb_at rfl (re_sb_nil _)))) (K2 (ic0_ge hc)))
set_option maxRecDepth 20000 in
theorem L586_120 {SC : List Value} {d s : Nat} {h : re_H} {Q : Nat → Value → re_H → Prop} {a0 : Nat} {a1 : Nat} {x4 : Int32}
    (K : wp SC 577 d 0 0 [(0, .int x4), (1, .int (i32 3))] [] h (wp_ret SC 586 (d + 1) s 130 [] [.int (i32 15), .ref a1, .ref a0] Q)) : wp SC 586 (d + 1) s 120 [(0, .ref a0), (1, .ref a1), (4, .int x4)] [] h Q := by
  refine wp_run 2 (pc' := 122) (lv' := [(0, .ref a0), (1, .ref a1), (4, .int x4)]) (st' := [.ref a1, .ref a0]) rfl ?_
  refine wp_bi (x := (i32 15)) ⟨rfl, rfl⟩ (by decide) ?_
  refine wp_run 2 (pc' := 127) (lv' := [(0, .ref a0), (1, .ref a1), (4, .int x4)]) (st' := [.int (i32 3), .int x4, .int (i32 15), .ref a1, .ref a0]) rfl ?_
  have eA : lv_args 0 ([.int (i32 3), .int x4].reverse) = [(0, .int x4), (1, .int (i32 3))] := by simp [lv_args, vc_i, vc_l, vc_r, vc_n, vc_a]
  refine wp_callS (ar := [.int (i32 3), .int x4]) (rest := [.int (i32 15), .ref a1, .ref a0]) (s1 := 0) (s2 := s) (d' := d) ⟨rfl, rfl⟩ rfl (Or.inl rfl) rfl (by simp [re_cat, vc_i, vc_l, vc_r, vc_n, vc_a]) (by rw [show re_cat ([.int (i32 3), .int x4].reverse) = 2 from by simp [re_cat, vc_i, vc_l, vc_r, vc_n, vc_a]]; decide) (by decide) rfl rfl (Nat.le_of_eq (Nat.zero_add s)) ?_
  rw [eA]
  exact wp_mono K (fun k v h' z => wp_ret_weak (re_sb_nil _) z)
set_option maxRecDepth 20000 in
theorem L586_130 {SC : List Value} {d s : Nat} {h : re_H} {Q : Nat → Value → re_H → Prop} {xs0 : Int32} {xs1 : Int32} {as2 : Nat} {as3 : Nat}
    {s1 s2 : Nat} (hs : s1 + s2 ≤ s) (K : wp SC 581 d s1 0 [(0, .ref as3), (1, .ref as2), (2, .int xs1), (3, .int xs0), (4, .int (i32 0))] [] h (wp_ret SC 586 (d + 1) s2 134 [] [] Q)) : wp SC 586 (d + 1) s 130 [] [.int xs0, .int xs1, .ref as2, .ref as3] h Q := by
  refine wp_run 1 (pc' := 131) (lv' := []) (st' := [.int (i32 0), .int xs0, .int xs1, .ref as2, .ref as3]) rfl ?_
  have eA : lv_args 0 ([.int (i32 0), .int xs0, .int xs1, .ref as2, .ref as3].reverse) = [(0, .ref as3), (1, .ref as2), (2, .int xs1), (3, .int xs0), (4, .int (i32 0))] := by simp [lv_args, vc_i, vc_l, vc_r, vc_n, vc_a]
  refine wp_callS (ar := [.int (i32 0), .int xs0, .int xs1, .ref as2, .ref as3]) (rest := []) (s1 := s1) (s2 := s2) (d' := d) ⟨rfl, rfl⟩ rfl (Or.inl rfl) rfl (by simp [re_cat, vc_i, vc_l, vc_r, vc_n, vc_a]) (by rw [show re_cat ([.int (i32 0), .int xs0, .int xs1, .ref as2, .ref as3].reverse) = 5 from by simp [re_cat, vc_i, vc_l, vc_r, vc_n, vc_a]]; decide) (by decide) rfl rfl hs ?_
  rw [eA]
  exact wp_mono K (fun k v h' z => wp_ret_weak (re_sb_nil _) z)
set_option maxRecDepth 20000 in
theorem L586_134 {SC : List Value} {d s : Nat} {h : re_H} {Q : Nat → Value → re_H → Prop} {ls0 : Int64}
    (K1 : ls0 < (0) → wp SC 586 d s 143 [] [] h Q) (K2 : ¬ ls0 < (0) → wp SC 586 d s 139 [] [] h Q) : wp SC 586 d s 134 [] [.long ls0] h Q := by
  refine wp_run 2 (pc' := 136) (lv' := []) (st' := [.int (lg_cmp ls0 (0))]) rfl ?_
  exact wp_if ⟨rfl, rfl⟩ rfl (fun hc => wp_weak (re_sb_nil _) (K1 (lc1_lt hc))) (fun hc => wp_weak (re_sb_nil _) (K2 (lc0_lt hc)))
set_option maxRecDepth 20000 in
theorem L586_139 {SC : List Value} {d s : Nat} {h : re_H} {Q : Nat → Value → re_H → Prop} 
    (K : wp SC 586 d s 144 [] [.int (i32 1)] h Q) : wp SC 586 d s 139 [] [] h Q := by
  refine wp_run 2 (pc' := 144) (lv' := []) (st' := [.int (i32 1)]) rfl ?_
  exact wp_weak (re_sb_nil _) K
set_option maxRecDepth 20000 in
theorem L586_143 {SC : List Value} {d s : Nat} {h : re_H} {Q : Nat → Value → re_H → Prop} 
    (K : wp SC 586 d s 144 [] [.int (i32 0)] h Q) : wp SC 586 d s 143 [] [] h Q := by
  refine wp_run 1 (pc' := 144) (lv' := []) (st' := [.int (i32 0)]) rfl ?_
  exact wp_weak (re_sb_nil _) K
set_option maxRecDepth 20000 in
theorem L586_144 {SC : List Value} {d s : Nat} {h : re_H} {Q : Nat → Value → re_H → Prop} {xs0 : Int32}
    (hz : xs0 = 0 ∨ xs0 = 1) (K : Q 1 (.int xs0) h) : wp SC 586 d s 144 [] [.int xs0] h Q := by
  exact wp_retz ⟨rfl, rfl⟩ rfl hz K
set_option maxRecDepth 20000 in
theorem L586_145 {SC : List Value} {d s : Nat} {h : re_H} {Q : Nat → Value → re_H → Prop} {a0 : Nat} {a1 : Nat} {a2 : Nat} {x4 : Int32} {x5 : Int32} {x6 : Int32}
    (K1 : ¬ x5 < (i32 4) → wp SC 586 d s 213 [(0, .ref a0), (1, .ref a1), (2, .ref a2), (4, .int x4), (5, .int x5), (6, .int x6)] [] h Q) (K2 : x5 < (i32 4) → wp SC 586 d s 151 [(0, .ref a0), (1, .ref a1), (2, .ref a2), (4, .int x4)] [] h Q) : wp SC 586 d s 145 [(0, .ref a0), (1, .ref a1), (2, .ref a2), (4, .int x4), (5, .int x5), (6, .int x6)] [] h Q := by
  refine wp_run 2 (pc' := 148) (lv' := [(0, .ref a0), (1, .ref a1), (2, .ref a2), (4, .int x4), (5, .int x5), (6, .int x6)]) (st' := [.int (i32 4), .int x5]) rfl ?_
  exact wp_cmp ⟨rfl, rfl⟩ rfl (fun hc => wp_weak (re_sb_at rfl (re_sb_at rfl (re_sb_at rfl (re_sb_at rfl (re_sb_at rfl (re_sb_at rfl (re_sb_nil _))))))) (K1 (ic1_ge hc))) (fun hc => wp_weak (re_sb_at rfl (re_sb_at rfl (re_sb_at rfl (re_sb_at rfl (re_sb_nil _))))) (K2 (ic0_ge hc)))
set_option maxRecDepth 20000 in
theorem L586_151 {SC : List Value} {d s : Nat} {h : re_H} {Q : Nat → Value → re_H → Prop} {a0 : Nat} {a1 : Nat} {a2 : Nat} {x4 : Int32}
    (K : wp SC 577 d 0 0 [(0, .int x4), (1, .int (i32 3))] [] h (wp_ret SC 586 (d + 1) s 161 [(2, .ref a2), (4, .int x4)] [.int (i32 16), .ref a1, .ref a0] Q)) : wp SC 586 (d + 1) s 151 [(0, .ref a0), (1, .ref a1), (2, .ref a2), (4, .int x4)] [] h Q := by
  refine wp_run 2 (pc' := 153) (lv' := [(0, .ref a0), (1, .ref a1), (2, .ref a2), (4, .int x4)]) (st' := [.ref a1, .ref a0]) rfl ?_
  refine wp_bi (x := (i32 16)) ⟨rfl, rfl⟩ (by decide) ?_
  refine wp_run 2 (pc' := 158) (lv' := [(0, .ref a0), (1, .ref a1), (2, .ref a2), (4, .int x4)]) (st' := [.int (i32 3), .int x4, .int (i32 16), .ref a1, .ref a0]) rfl ?_
  have eA : lv_args 0 ([.int (i32 3), .int x4].reverse) = [(0, .int x4), (1, .int (i32 3))] := by simp [lv_args, vc_i, vc_l, vc_r, vc_n, vc_a]
  refine wp_callS (ar := [.int (i32 3), .int x4]) (rest := [.int (i32 16), .ref a1, .ref a0]) (s1 := 0) (s2 := s) (d' := d) ⟨rfl, rfl⟩ rfl (Or.inl rfl) rfl (by simp [re_cat, vc_i, vc_l, vc_r, vc_n, vc_a]) (by rw [show re_cat ([.int (i32 3), .int x4].reverse) = 2 from by simp [re_cat, vc_i, vc_l, vc_r, vc_n, vc_a]]; decide) (by decide) rfl rfl (Nat.le_of_eq (Nat.zero_add s)) ?_
  rw [eA]
  exact wp_mono K (fun k v h' z => wp_ret_weak (re_sb_at rfl (re_sb_at rfl (re_sb_nil _))) z)
set_option maxRecDepth 20000 in
theorem L586_161 {SC : List Value} {d s : Nat} {h : re_H} {Q : Nat → Value → re_H → Prop} {a2 : Nat} {x4 : Int32} {xs0 : Int32} {xs1 : Int32} {as2 : Nat} {as3 : Nat}
    {s1 s2 : Nat} (hs : s1 + s2 ≤ s) (K : wp SC 581 d s1 0 [(0, .ref as3), (1, .ref as2), (2, .int xs1), (3, .int xs0), (4, .int (i32 0))] [] h (wp_ret SC 586 (d + 1) s2 165 [(2, .ref a2), (4, .int x4)] [] Q)) : wp SC 586 (d + 1) s 161 [(2, .ref a2), (4, .int x4)] [.int xs0, .int xs1, .ref as2, .ref as3] h Q := by
  refine wp_run 1 (pc' := 162) (lv' := [(2, .ref a2), (4, .int x4)]) (st' := [.int (i32 0), .int xs0, .int xs1, .ref as2, .ref as3]) rfl ?_
  have eA : lv_args 0 ([.int (i32 0), .int xs0, .int xs1, .ref as2, .ref as3].reverse) = [(0, .ref as3), (1, .ref as2), (2, .int xs1), (3, .int xs0), (4, .int (i32 0))] := by simp [lv_args, vc_i, vc_l, vc_r, vc_n, vc_a]
  refine wp_callS (ar := [.int (i32 0), .int xs0, .int xs1, .ref as2, .ref as3]) (rest := []) (s1 := s1) (s2 := s2) (d' := d) ⟨rfl, rfl⟩ rfl (Or.inl rfl) rfl (by simp [re_cat, vc_i, vc_l, vc_r, vc_n, vc_a]) (by rw [show re_cat ([.int (i32 0), .int xs0, .int xs1, .ref as2, .ref as3].reverse) = 5 from by simp [re_cat, vc_i, vc_l, vc_r, vc_n, vc_a]]; decide) (by decide) rfl rfl hs ?_
  rw [eA]
  exact wp_mono K (fun k v h' z => wp_ret_weak (re_sb_at rfl (re_sb_at rfl (re_sb_nil _))) z)
set_option maxRecDepth 20000 in
theorem L586_165 {SC : List Value} {d s : Nat} {h : re_H} {Q : Nat → Value → re_H → Prop} {a2 : Nat} {x4 : Int32} {ls0 : Int64}
    {xe1 : Int32} (e2 : nb_ar h a2 100 (i32 2) (.int xe1)) (K1 : ¬ ls0 = xe1.toInt64 → wp SC 586 d s 181 [(2, .ref a2), (4, .int x4)] [] h Q) (K2 : ls0 = xe1.toInt64 → wp SC 586 d s 177 [(2, .ref a2), (4, .int x4)] [] h Q) : wp SC 586 d s 165 [(2, .ref a2), (4, .int x4)] [.long ls0] h Q := by
  refine wp_run 4 (pc' := 171) (lv' := [(7, .long ls0), (2, .ref a2), (4, .int x4)]) (st' := [.int (i32 2), .ref a2, .long ls0]) rfl ?_
  obtain ⟨w2, i2, e2a, e2x, e2i, e2v⟩ := e2
  refine wp_ial ⟨rfl, rfl⟩ e2a rfl e2x e2i e2v ?_
  refine wp_run 2 (pc' := 174) (lv' := [(7, .long ls0), (2, .ref a2), (4, .int x4)]) (st' := [.int (lg_cmp ls0 xe1.toInt64)]) rfl ?_
  exact wp_if ⟨rfl, rfl⟩ rfl (fun hc => wp_weak (re_sb_at rfl (re_sb_at rfl (re_sb_nil _))) (K1 (lc1_ne hc))) (fun hc => wp_weak (re_sb_at rfl (re_sb_at rfl (re_sb_nil _))) (K2 (lc0_ne hc)))
set_option maxRecDepth 20000 in
theorem L586_177 {SC : List Value} {d s : Nat} {h : re_H} {Q : Nat → Value → re_H → Prop} {a2 : Nat} {x4 : Int32}
    (K : wp SC 586 d s 182 [(2, .ref a2), (4, .int x4)] [.int (i32 1)] h Q) : wp SC 586 d s 177 [(2, .ref a2), (4, .int x4)] [] h Q := by
  refine wp_run 2 (pc' := 182) (lv' := [(2, .ref a2), (4, .int x4)]) (st' := [.int (i32 1)]) rfl ?_
  exact wp_weak (re_sb_at rfl (re_sb_at rfl (re_sb_nil _))) K
set_option maxRecDepth 20000 in
theorem L586_181 {SC : List Value} {d s : Nat} {h : re_H} {Q : Nat → Value → re_H → Prop} {a2 : Nat} {x4 : Int32}
    (K : wp SC 586 d s 182 [(2, .ref a2), (4, .int x4)] [.int (i32 0)] h Q) : wp SC 586 d s 181 [(2, .ref a2), (4, .int x4)] [] h Q := by
  refine wp_run 1 (pc' := 182) (lv' := [(2, .ref a2), (4, .int x4)]) (st' := [.int (i32 0)]) rfl ?_
  exact wp_weak (re_sb_at rfl (re_sb_at rfl (re_sb_nil _))) K
set_option maxRecDepth 20000 in
theorem L586_182 {SC : List Value} {d s : Nat} {h : re_H} {Q : Nat → Value → re_H → Prop} {a2 : Nat} {x4 : Int32} {xs0 : Int32}
    (K : wp SC 577 d 0 0 [(0, .int x4), (1, .int (i32 3))] [] h (wp_ret SC 586 (d + 1) s 192 [(2, .ref a2), (9, .int xs0)] [.int (i32 2), .ref a2] Q)) : wp SC 586 (d + 1) s 182 [(2, .ref a2), (4, .int x4)] [.int xs0] h Q := by
  refine wp_run 5 (pc' := 189) (lv' := [(9, .int xs0), (2, .ref a2), (4, .int x4)]) (st' := [.int (i32 3), .int x4, .int (i32 2), .ref a2]) rfl ?_
  have eA : lv_args 0 ([.int (i32 3), .int x4].reverse) = [(0, .int x4), (1, .int (i32 3))] := by simp [lv_args, vc_i, vc_l, vc_r, vc_n, vc_a]
  refine wp_callS (ar := [.int (i32 3), .int x4]) (rest := [.int (i32 2), .ref a2]) (s1 := 0) (s2 := s) (d' := d) ⟨rfl, rfl⟩ rfl (Or.inl rfl) rfl (by simp [re_cat, vc_i, vc_l, vc_r, vc_n, vc_a]) (by rw [show re_cat ([.int (i32 3), .int x4].reverse) = 2 from by simp [re_cat, vc_i, vc_l, vc_r, vc_n, vc_a]]; decide) (by decide) rfl rfl (Nat.le_of_eq (Nat.zero_add s)) ?_
  rw [eA]
  exact wp_mono K (fun k v h' z => wp_ret_weak (re_sb_at rfl (re_sb_at rfl (re_sb_nil _))) z)
set_option maxRecDepth 20000 in
theorem L586_192 {SC : List Value} {d s : Nat} {h : re_H} {Q : Nat → Value → re_H → Prop} {a2 : Nat} {x9 : Int32} {xs0 : Int32} {xs1 : Int32} {as2 : Nat}
    {w : List Value} {i : Nat} (e : re_hg h as2 = some (100, w)) (hx : xs1 = i32 i) (hi : i < 2147483648) (hl : i < w.length) (K : wp SC 586 d s 193 [(2, .ref a2), (9, .int x9)] [] (re_hw h as2 (100, w.set i (.int xs0))) Q) : wp SC 586 d s 192 [(2, .ref a2), (9, .int x9)] [.int xs0, .int xs1, .ref as2] h Q := by
  exact wp_ias ⟨rfl, rfl⟩ e rfl hx hi hl (wp_weak (re_sb_at rfl (re_sb_at rfl (re_sb_nil _))) K)
set_option maxRecDepth 20000 in
theorem L586_193 {SC : List Value} {d s : Nat} {h : re_H} {Q : Nat → Value → re_H → Prop} {a2 : Nat} {x9 : Int32}
    {xe1 : Int32} (e2 : nb_ar h a2 100 (i32 2) (.int xe1)) (K1 : ¬ xe1 = (i32 2) → wp SC 586 d s 206 [(2, .ref a2), (9, .int x9)] [.int (i32 4), .ref a2] h Q) (K2 : xe1 = (i32 2) → wp SC 586 d s 202 [(9, .int x9)] [.int (i32 4), .ref a2] h Q) : wp SC 586 d s 193 [(2, .ref a2), (9, .int x9)] [] h Q := by
  refine wp_run 4 (pc' := 197) (lv' := [(2, .ref a2), (9, .int x9)]) (st' := [.int (i32 2), .ref a2, .int (i32 4), .ref a2]) rfl ?_
  obtain ⟨w2, i2, e2a, e2x, e2i, e2v⟩ := e2
  refine wp_ial ⟨rfl, rfl⟩ e2a rfl e2x e2i e2v ?_
  refine wp_run 1 (pc' := 199) (lv' := [(2, .ref a2), (9, .int x9)]) (st' := [.int (i32 2), .int xe1, .int (i32 4), .ref a2]) rfl ?_
  exact wp_cmp ⟨rfl, rfl⟩ rfl (fun hc => wp_weak (re_sb_at rfl (re_sb_at rfl (re_sb_nil _))) (K1 (ic1_ne hc))) (fun hc => wp_weak (re_sb_at rfl (re_sb_nil _)) (K2 (ic0_ne hc)))
set_option maxRecDepth 20000 in
theorem L586_202 {SC : List Value} {d s : Nat} {h : re_H} {Q : Nat → Value → re_H → Prop} {x9 : Int32} {xs0 : Int32} {as1 : Nat}
    (K : wp SC 586 d s 209 [(9, .int x9)] [.int (i32 1), .int xs0, .ref as1] h Q) : wp SC 586 d s 202 [(9, .int x9)] [.int xs0, .ref as1] h Q := by
  refine wp_run 2 (pc' := 209) (lv' := [(9, .int x9)]) (st' := [.int (i32 1), .int xs0, .ref as1]) rfl ?_
  exact wp_weak (re_sb_at rfl (re_sb_nil _)) K
set_option maxRecDepth 20000 in
theorem L586_206 {SC : List Value} {d s : Nat} {h : re_H} {Q : Nat → Value → re_H → Prop} {a2 : Nat} {x9 : Int32} {xs0 : Int32} {as1 : Nat}
    {xe1 : Int32} (e2 : nb_ar h a2 100 (i32 4) (.int xe1)) (K : wp SC 586 d s 209 [(9, .int x9)] [.int xe1, .int xs0, .ref as1] h Q) : wp SC 586 d s 206 [(2, .ref a2), (9, .int x9)] [.int xs0, .ref as1] h Q := by
  refine wp_run 2 (pc' := 208) (lv' := [(2, .ref a2), (9, .int x9)]) (st' := [.int (i32 4), .ref a2, .int xs0, .ref as1]) rfl ?_
  obtain ⟨w2, i2, e2a, e2x, e2i, e2v⟩ := e2
  refine wp_ial ⟨rfl, rfl⟩ e2a rfl e2x e2i e2v ?_
  exact wp_weak (re_sb_at rfl (re_sb_nil _)) K
set_option maxRecDepth 20000 in
theorem L586_209 {SC : List Value} {d s : Nat} {h : re_H} {Q : Nat → Value → re_H → Prop} {x9 : Int32} {xs0 : Int32} {xs1 : Int32} {as2 : Nat}
    {w : List Value} {i : Nat} (e : re_hg h as2 = some (100, w)) (hx : xs1 = i32 i) (hi : i < 2147483648) (hl : i < w.length) (K : wp SC 586 d s 210 [(9, .int x9)] [] (re_hw h as2 (100, w.set i (.int xs0))) Q) : wp SC 586 d s 209 [(9, .int x9)] [.int xs0, .int xs1, .ref as2] h Q := by
  exact wp_ias ⟨rfl, rfl⟩ e rfl hx hi hl (wp_weak (re_sb_at rfl (re_sb_nil _)) K)
set_option maxRecDepth 20000 in
theorem L586_210 {SC : List Value} {d s : Nat} {h : re_H} {Q : Nat → Value → re_H → Prop} {x9 : Int32}
    (hz : x9 = 0 ∨ x9 = 1) (K : Q 1 (.int x9) h) : wp SC 586 d s 210 [(9, .int x9)] [] h Q := by
  refine wp_run 1 (pc' := 212) (lv' := [(9, .int x9)]) (st' := [.int x9]) rfl ?_
  exact wp_retz ⟨rfl, rfl⟩ rfl hz K
set_option maxRecDepth 20000 in
theorem L586_213 {SC : List Value} {d s : Nat} {h : re_H} {Q : Nat → Value → re_H → Prop} {a0 : Nat} {a1 : Nat} {a2 : Nat} {x4 : Int32} {x5 : Int32} {x6 : Int32}
    (K1 : ¬ x5 < (i32 6) → wp SC 586 d s 368 [(0, .ref a0), (1, .ref a1), (2, .ref a2), (4, .int x4), (5, .int x5), (6, .int x6)] [] h Q) (K2 : x5 < (i32 6) → wp SC 586 d s 220 [(0, .ref a0), (1, .ref a1), (2, .ref a2), (6, .int x6)] [] h Q) : wp SC 586 d s 213 [(0, .ref a0), (1, .ref a1), (2, .ref a2), (4, .int x4), (5, .int x5), (6, .int x6)] [] h Q := by
  refine wp_run 1 (pc' := 215) (lv' := [(0, .ref a0), (1, .ref a1), (2, .ref a2), (4, .int x4), (5, .int x5), (6, .int x6)]) (st' := [.int x5]) rfl ?_
  refine wp_bi (x := (i32 6)) ⟨rfl, rfl⟩ (by decide) ?_
  exact wp_cmp ⟨rfl, rfl⟩ rfl (fun hc => wp_weak (re_sb_at rfl (re_sb_at rfl (re_sb_at rfl (re_sb_at rfl (re_sb_at rfl (re_sb_at rfl (re_sb_nil _))))))) (K1 (ic1_ge hc))) (fun hc => wp_weak (re_sb_at rfl (re_sb_at rfl (re_sb_at rfl (re_sb_at rfl (re_sb_nil _))))) (K2 (ic0_ge hc)))
set_option maxRecDepth 20000 in
theorem L586_220 {SC : List Value} {d s : Nat} {h : re_H} {Q : Nat → Value → re_H → Prop} {a0 : Nat} {a1 : Nat} {a2 : Nat} {x6 : Int32}
    {s1 s2 : Nat} (hs : s1 + s2 ≤ s) (K : wp SC 579 d s1 0 [(0, .ref a0), (1, .int (i32 21)), (2, .int x6), (3, .int (i32 0))] [] h (wp_ret SC 586 (d + 1) s2 229 [(0, .ref a0), (1, .ref a1), (2, .ref a2), (6, .int x6)] [] Q)) : wp SC 586 (d + 1) s 220 [(0, .ref a0), (1, .ref a1), (2, .ref a2), (6, .int x6)] [] h Q := by
  refine wp_run 1 (pc' := 221) (lv' := [(0, .ref a0), (1, .ref a1), (2, .ref a2), (6, .int x6)]) (st' := [.ref a0]) rfl ?_
  refine wp_bi (x := (i32 21)) ⟨rfl, rfl⟩ (by decide) ?_
  refine wp_run 2 (pc' := 226) (lv' := [(0, .ref a0), (1, .ref a1), (2, .ref a2), (6, .int x6)]) (st' := [.int (i32 0), .int x6, .int (i32 21), .ref a0]) rfl ?_
  have eA : lv_args 0 ([.int (i32 0), .int x6, .int (i32 21), .ref a0].reverse) = [(0, .ref a0), (1, .int (i32 21)), (2, .int x6), (3, .int (i32 0))] := by simp [lv_args, vc_i, vc_l, vc_r, vc_n, vc_a]
  refine wp_callS (ar := [.int (i32 0), .int x6, .int (i32 21), .ref a0]) (rest := []) (s1 := s1) (s2 := s2) (d' := d) ⟨rfl, rfl⟩ rfl (Or.inr (Or.inr rfl)) rfl (by simp [re_cat, vc_i, vc_l, vc_r, vc_n, vc_a]) (by rw [show re_cat ([.int (i32 0), .int x6, .int (i32 21), .ref a0].reverse) = 4 from by simp [re_cat, vc_i, vc_l, vc_r, vc_n, vc_a]]; decide) (by decide) rfl rfl hs ?_
  rw [eA]
  exact wp_mono K (fun k v h' z => wp_ret_weak (re_sb_at rfl (re_sb_at rfl (re_sb_at rfl (re_sb_at rfl (re_sb_nil _))))) z)
set_option maxRecDepth 20000 in
theorem L586_229 {SC : List Value} {d s : Nat} {h : re_H} {Q : Nat → Value → re_H → Prop} {a0 : Nat} {a1 : Nat} {a2 : Nat} {x6 : Int32} {ls0 : Int64}
    (K1 : ls0 = (-2000000001) → wp SC 586 d s 240 [(0, .ref a0), (1, .ref a1), (2, .ref a2), (6, .int x6)] [] h Q) (K2 : ¬ ls0 = (-2000000001) → wp SC 586 d s 236 [(0, .ref a0), (1, .ref a1), (2, .ref a2), (6, .int x6)] [] h Q) : wp SC 586 d s 229 [(0, .ref a0), (1, .ref a1), (2, .ref a2), (6, .int x6)] [.long ls0] h Q := by
  refine wp_cst (pc' := 232) (v := .long (-2000000001)) ⟨rfl, rfl⟩ rfl rfl rfl rfl rfl ?_
  refine wp_run 1 (pc' := 233) (lv' := [(0, .ref a0), (1, .ref a1), (2, .ref a2), (6, .int x6)]) (st' := [.int (lg_cmp ls0 (-2000000001))]) rfl ?_
  exact wp_if ⟨rfl, rfl⟩ rfl (fun hc => wp_weak (re_sb_at rfl (re_sb_at rfl (re_sb_at rfl (re_sb_at rfl (re_sb_nil _))))) (K1 (lc1_eq hc))) (fun hc => wp_weak (re_sb_at rfl (re_sb_at rfl (re_sb_at rfl (re_sb_at rfl (re_sb_nil _))))) (K2 (lc0_eq hc)))
set_option maxRecDepth 20000 in
theorem L586_236 {SC : List Value} {d s : Nat} {h : re_H} {Q : Nat → Value → re_H → Prop} {a0 : Nat} {a1 : Nat} {a2 : Nat} {x6 : Int32}
    (K : wp SC 586 d s 241 [(0, .ref a0), (1, .ref a1), (2, .ref a2), (6, .int x6)] [.int (i32 1)] h Q) : wp SC 586 d s 236 [(0, .ref a0), (1, .ref a1), (2, .ref a2), (6, .int x6)] [] h Q := by
  refine wp_run 2 (pc' := 241) (lv' := [(0, .ref a0), (1, .ref a1), (2, .ref a2), (6, .int x6)]) (st' := [.int (i32 1)]) rfl ?_
  exact wp_weak (re_sb_at rfl (re_sb_at rfl (re_sb_at rfl (re_sb_at rfl (re_sb_nil _))))) K
set_option maxRecDepth 20000 in
theorem L586_240 {SC : List Value} {d s : Nat} {h : re_H} {Q : Nat → Value → re_H → Prop} {a0 : Nat} {a1 : Nat} {a2 : Nat} {x6 : Int32}
    (K : wp SC 586 d s 241 [(0, .ref a0), (1, .ref a1), (2, .ref a2), (6, .int x6)] [.int (i32 0)] h Q) : wp SC 586 d s 240 [(0, .ref a0), (1, .ref a1), (2, .ref a2), (6, .int x6)] [] h Q := by
  refine wp_run 1 (pc' := 241) (lv' := [(0, .ref a0), (1, .ref a1), (2, .ref a2), (6, .int x6)]) (st' := [.int (i32 0)]) rfl ?_
  exact wp_weak (re_sb_at rfl (re_sb_at rfl (re_sb_at rfl (re_sb_at rfl (re_sb_nil _))))) K
set_option maxRecDepth 20000 in
theorem L586_241 {SC : List Value} {d s : Nat} {h : re_H} {Q : Nat → Value → re_H → Prop} {a0 : Nat} {a1 : Nat} {a2 : Nat} {x6 : Int32} {xs0 : Int32}
    {s1 s2 : Nat} (hs : s1 + s2 ≤ s) (K : wp SC 579 d s1 0 [(0, .ref a0), (1, .int (i32 29)), (2, .int x6), (3, .int (i32 0))] [] h (wp_ret SC 586 (d + 1) s2 252 [(0, .ref a0), (1, .ref a1), (2, .ref a2), (6, .int x6), (7, .int xs0)] [] Q)) : wp SC 586 (d + 1) s 241 [(0, .ref a0), (1, .ref a1), (2, .ref a2), (6, .int x6)] [.int xs0] h Q := by
  refine wp_run 2 (pc' := 244) (lv' := [(7, .int xs0), (0, .ref a0), (1, .ref a1), (2, .ref a2), (6, .int x6)]) (st' := [.ref a0]) rfl ?_
  refine wp_bi (x := (i32 29)) ⟨rfl, rfl⟩ (by decide) ?_
  refine wp_run 2 (pc' := 249) (lv' := [(7, .int xs0), (0, .ref a0), (1, .ref a1), (2, .ref a2), (6, .int x6)]) (st' := [.int (i32 0), .int x6, .int (i32 29), .ref a0]) rfl ?_
  have eA : lv_args 0 ([.int (i32 0), .int x6, .int (i32 29), .ref a0].reverse) = [(0, .ref a0), (1, .int (i32 29)), (2, .int x6), (3, .int (i32 0))] := by simp [lv_args, vc_i, vc_l, vc_r, vc_n, vc_a]
  refine wp_callS (ar := [.int (i32 0), .int x6, .int (i32 29), .ref a0]) (rest := []) (s1 := s1) (s2 := s2) (d' := d) ⟨rfl, rfl⟩ rfl (Or.inr (Or.inr rfl)) rfl (by simp [re_cat, vc_i, vc_l, vc_r, vc_n, vc_a]) (by rw [show re_cat ([.int (i32 0), .int x6, .int (i32 29), .ref a0].reverse) = 4 from by simp [re_cat, vc_i, vc_l, vc_r, vc_n, vc_a]]; decide) (by decide) rfl rfl hs ?_
  rw [eA]
  exact wp_mono K (fun k v h' z => wp_ret_weak (re_sb_at rfl (re_sb_at rfl (re_sb_at rfl (re_sb_at rfl (re_sb_at rfl (re_sb_nil _)))))) z)
set_option maxRecDepth 20000 in
theorem L586_252 {SC : List Value} {d s : Nat} {h : re_H} {Q : Nat → Value → re_H → Prop} {a0 : Nat} {a1 : Nat} {a2 : Nat} {x6 : Int32} {x7 : Int32} {ls0 : Int64}
    {s1 s2 : Nat} (hs : s1 + s2 ≤ s) (K : wp SC 581 d s1 0 [(0, .ref a0), (1, .ref a1), (2, .int (i32 17)), (3, .int x6), (4, .int (i32 0))] [] h (wp_ret SC 586 (d + 1) s2 264 [(0, .ref a0), (2, .ref a2), (6, .int x6), (7, .int x7), (8, .long ls0)] [] Q)) : wp SC 586 (d + 1) s 252 [(0, .ref a0), (1, .ref a1), (2, .ref a2), (6, .int x6), (7, .int x7)] [.long ls0] h Q := by
  refine wp_run 3 (pc' := 256) (lv' := [(8, .long ls0), (0, .ref a0), (1, .ref a1), (2, .ref a2), (6, .int x6), (7, .int x7)]) (st' := [.ref a1, .ref a0]) rfl ?_
  refine wp_bi (x := (i32 17)) ⟨rfl, rfl⟩ (by decide) ?_
  refine wp_run 2 (pc' := 261) (lv' := [(8, .long ls0), (0, .ref a0), (1, .ref a1), (2, .ref a2), (6, .int x6), (7, .int x7)]) (st' := [.int (i32 0), .int x6, .int (i32 17), .ref a1, .ref a0]) rfl ?_
  have eA : lv_args 0 ([.int (i32 0), .int x6, .int (i32 17), .ref a1, .ref a0].reverse) = [(0, .ref a0), (1, .ref a1), (2, .int (i32 17)), (3, .int x6), (4, .int (i32 0))] := by simp [lv_args, vc_i, vc_l, vc_r, vc_n, vc_a]
  refine wp_callS (ar := [.int (i32 0), .int x6, .int (i32 17), .ref a1, .ref a0]) (rest := []) (s1 := s1) (s2 := s2) (d' := d) ⟨rfl, rfl⟩ rfl (Or.inl rfl) rfl (by simp [re_cat, vc_i, vc_l, vc_r, vc_n, vc_a]) (by rw [show re_cat ([.int (i32 0), .int x6, .int (i32 17), .ref a1, .ref a0].reverse) = 5 from by simp [re_cat, vc_i, vc_l, vc_r, vc_n, vc_a]]; decide) (by decide) rfl rfl hs ?_
  rw [eA]
  exact wp_mono K (fun k v h' z => wp_ret_weak (re_sb_at rfl (re_sb_at rfl (re_sb_at rfl (re_sb_at rfl (re_sb_at rfl (re_sb_nil _)))))) z)
set_option maxRecDepth 20000 in
theorem L586_264 {SC : List Value} {d s : Nat} {h : re_H} {Q : Nat → Value → re_H → Prop} {a0 : Nat} {a2 : Nat} {x6 : Int32} {x7 : Int32} {l8 : Int64} {ls0 : Int64}
    (K1 : x7 = 0 → wp SC 586 d s 353 [(10, .long ls0)] [] h Q) (K2 : ¬ x7 = 0 → wp SC 586 d s 271 [(0, .ref a0), (2, .ref a2), (6, .int x6), (8, .long l8), (10, .long ls0)] [] h Q) : wp SC 586 d s 264 [(0, .ref a0), (2, .ref a2), (6, .int x6), (7, .int x7), (8, .long l8)] [.long ls0] h Q := by
  refine wp_run 2 (pc' := 268) (lv' := [(10, .long ls0), (0, .ref a0), (2, .ref a2), (6, .int x6), (7, .int x7), (8, .long l8)]) (st' := [.int x7]) rfl ?_
  exact wp_if ⟨rfl, rfl⟩ rfl (fun hc => wp_weak (re_sb_at rfl (re_sb_nil _)) (K1 (ic1_eq hc))) (fun hc => wp_weak (re_sb_at rfl (re_sb_at rfl (re_sb_at rfl (re_sb_at rfl (re_sb_at rfl (re_sb_nil _)))))) (K2 (ic0_eq hc)))
set_option maxRecDepth 20000 in
theorem L586_271 {SC : List Value} {d s : Nat} {h : re_H} {Q : Nat → Value → re_H → Prop} {a0 : Nat} {a2 : Nat} {x6 : Int32} {l8 : Int64} {l10 : Int64}
    (K1 : l10 < (0) → wp SC 586 d s 349 [] [] h Q) (K2 : ¬ l10 < (0) → wp SC 586 d s 278 [(0, .ref a0), (2, .ref a2), (6, .int x6), (8, .long l8), (10, .long l10)] [] h Q) : wp SC 586 d s 271 [(0, .ref a0), (2, .ref a2), (6, .int x6), (8, .long l8), (10, .long l10)] [] h Q := by
  refine wp_run 3 (pc' := 275) (lv' := [(0, .ref a0), (2, .ref a2), (6, .int x6), (8, .long l8), (10, .long l10)]) (st' := [.int (lg_cmp l10 (0))]) rfl ?_
  exact wp_if ⟨rfl, rfl⟩ rfl (fun hc => wp_weak (re_sb_nil _) (K1 (lc1_lt hc))) (fun hc => wp_weak (re_sb_at rfl (re_sb_at rfl (re_sb_at rfl (re_sb_at rfl (re_sb_at rfl (re_sb_nil _)))))) (K2 (lc0_lt hc)))
set_option maxRecDepth 20000 in
theorem L586_278 {SC : List Value} {d s : Nat} {h : re_H} {Q : Nat → Value → re_H → Prop} {a0 : Nat} {a2 : Nat} {x6 : Int32} {l8 : Int64} {l10 : Int64}
    {xe1 : Int32} (e2 : nb_ar h a2 100 (i32 1) (.int xe1)) (K1 : xe1.toInt64 < l10 → wp SC 586 d s 349 [] [] h Q) (K2 : ¬ xe1.toInt64 < l10 → wp SC 586 d s 288 [(0, .ref a0), (2, .ref a2), (6, .int x6), (8, .long l8), (10, .long l10)] [] h Q) : wp SC 586 d s 278 [(0, .ref a0), (2, .ref a2), (6, .int x6), (8, .long l8), (10, .long l10)] [] h Q := by
  refine wp_run 3 (pc' := 282) (lv' := [(0, .ref a0), (2, .ref a2), (6, .int x6), (8, .long l8), (10, .long l10)]) (st' := [.int (i32 1), .ref a2, .long l10]) rfl ?_
  obtain ⟨w2, i2, e2a, e2x, e2i, e2v⟩ := e2
  refine wp_ial ⟨rfl, rfl⟩ e2a rfl e2x e2i e2v ?_
  refine wp_run 2 (pc' := 285) (lv' := [(0, .ref a0), (2, .ref a2), (6, .int x6), (8, .long l8), (10, .long l10)]) (st' := [.int (lg_cmp l10 xe1.toInt64)]) rfl ?_
  exact wp_if ⟨rfl, rfl⟩ rfl (fun hc => wp_weak (re_sb_nil _) (K1 (lc1_gt hc))) (fun hc => wp_weak (re_sb_at rfl (re_sb_at rfl (re_sb_at rfl (re_sb_at rfl (re_sb_at rfl (re_sb_nil _)))))) (K2 (lc0_gt hc)))
set_option maxRecDepth 20000 in
theorem L586_288 {SC : List Value} {d s : Nat} {h : re_H} {Q : Nat → Value → re_H → Prop} {a0 : Nat} {a2 : Nat} {x6 : Int32} {l8 : Int64} {l10 : Int64}
    {c : Nat} {w : List Value} (eg : re_hg h a0 = some (c, w)) (ec : c = 0) {s1 s2 : Nat} (hs : s1 + s2 ≤ s) (K : wp SC 39 d s1 0 [(0, .ref a0), (1, .int x6)] [] h (wp_ret SC 586 (d + 1) s2 294 [(0, .ref a0), (2, .ref a2), (6, .int x6), (8, .long l8), (10, .long l10)] [] Q)) : wp SC 586 (d + 1) s 288 [(0, .ref a0), (2, .ref a2), (6, .int x6), (8, .long l8), (10, .long l10)] [] h Q := by
  refine wp_run 2 (pc' := 291) (lv' := [(0, .ref a0), (2, .ref a2), (6, .int x6), (8, .long l8), (10, .long l10)]) (st' := [.int x6, .ref a0]) rfl ?_
  have eA : lv_args 0 (.ref a0 :: [.int x6].reverse) = [(0, .ref a0), (1, .int x6)] := by simp [lv_args, vc_i, vc_l, vc_r, vc_n, vc_a]
  refine wp_callV (ar := [.int x6]) (rest := []) (s1 := s1) (s2 := s2) (d' := d) ⟨rfl, rfl⟩ rfl (Or.inl rfl)  (by simp [re_cat, vc_i, vc_l, vc_r, vc_n, vc_a]) (by rw [show re_cat (.ref a0 :: [.int x6].reverse) = 2 from by simp [re_cat, vc_i, vc_l, vc_r, vc_n, vc_a]]; decide) (by decide) rfl eg ec rfl hs ?_
  rw [eA]
  exact wp_mono K (fun k v h' z => wp_ret_weak (re_sb_at rfl (re_sb_at rfl (re_sb_at rfl (re_sb_at rfl (re_sb_at rfl (re_sb_nil _)))))) z)
set_option maxRecDepth 20000 in
theorem L586_294 {SC : List Value} {d s : Nat} {h : re_H} {Q : Nat → Value → re_H → Prop} {a0 : Nat} {a2 : Nat} {x6 : Int32} {l8 : Int64} {l10 : Int64} {xs0 : Int32}
    (K1 : xs0.toInt64 < l8 → wp SC 586 d s 349 [] [] h Q) (K2 : ¬ xs0.toInt64 < l8 → wp SC 586 d s 301 [(0, .ref a0), (2, .ref a2), (6, .int x6), (8, .long l8), (10, .long l10)] [] h Q) : wp SC 586 d s 294 [(0, .ref a0), (2, .ref a2), (6, .int x6), (8, .long l8), (10, .long l10)] [.int xs0] h Q := by
  refine wp_run 3 (pc' := 298) (lv' := [(0, .ref a0), (2, .ref a2), (6, .int x6), (8, .long l8), (10, .long l10)]) (st' := [.int (lg_cmp xs0.toInt64 l8)]) rfl ?_
  exact wp_if ⟨rfl, rfl⟩ rfl (fun hc => wp_weak (re_sb_nil _) (K1 (lc1_lt hc))) (fun hc => wp_weak (re_sb_at rfl (re_sb_at rfl (re_sb_at rfl (re_sb_at rfl (re_sb_at rfl (re_sb_nil _)))))) (K2 (lc0_lt hc)))
set_option maxRecDepth 20000 in
theorem L586_301 {SC : List Value} {d s : Nat} {h : re_H} {Q : Nat → Value → re_H → Prop} {a0 : Nat} {a2 : Nat} {x6 : Int32} {l8 : Int64} {l10 : Int64}
    {c : Nat} {w : List Value} (eg : re_hg h a0 = some (c, w)) (ec : c = 0) {s1 s2 : Nat} (hs : s1 + s2 ≤ s) (K : wp SC 39 d s1 0 [(0, .ref a0), (1, .int x6)] [] h (wp_ret SC 586 (d + 1) s2 307 [(0, .ref a0), (2, .ref a2), (6, .int x6), (8, .long l8), (10, .long l10)] [] Q)) : wp SC 586 (d + 1) s 301 [(0, .ref a0), (2, .ref a2), (6, .int x6), (8, .long l8), (10, .long l10)] [] h Q := by
  refine wp_run 2 (pc' := 304) (lv' := [(0, .ref a0), (2, .ref a2), (6, .int x6), (8, .long l8), (10, .long l10)]) (st' := [.int x6, .ref a0]) rfl ?_
  have eA : lv_args 0 (.ref a0 :: [.int x6].reverse) = [(0, .ref a0), (1, .int x6)] := by simp [lv_args, vc_i, vc_l, vc_r, vc_n, vc_a]
  refine wp_callV (ar := [.int x6]) (rest := []) (s1 := s1) (s2 := s2) (d' := d) ⟨rfl, rfl⟩ rfl (Or.inl rfl)  (by simp [re_cat, vc_i, vc_l, vc_r, vc_n, vc_a]) (by rw [show re_cat (.ref a0 :: [.int x6].reverse) = 2 from by simp [re_cat, vc_i, vc_l, vc_r, vc_n, vc_a]]; decide) (by decide) rfl eg ec rfl hs ?_
  rw [eA]
  exact wp_mono K (fun k v h' z => wp_ret_weak (re_sb_at rfl (re_sb_at rfl (re_sb_at rfl (re_sb_at rfl (re_sb_at rfl (re_sb_nil _)))))) z)
set_option maxRecDepth 20000 in
theorem L586_307 {SC : List Value} {d s : Nat} {h : re_H} {Q : Nat → Value → re_H → Prop} {a0 : Nat} {a2 : Nat} {x6 : Int32} {l8 : Int64} {l10 : Int64} {xs0 : Int32}
    (K1 : (l8 + (1)) < xs0.toInt64 → wp SC 586 d s 349 [] [] h Q) (K2 : ¬ (l8 + (1)) < xs0.toInt64 → wp SC 586 d s 316 [(0, .ref a0), (2, .ref a2), (6, .int x6), (10, .long l10)] [] h Q) : wp SC 586 d s 307 [(0, .ref a0), (2, .ref a2), (6, .int x6), (8, .long l8), (10, .long l10)] [.int xs0] h Q := by
  refine wp_run 5 (pc' := 313) (lv' := [(0, .ref a0), (2, .ref a2), (6, .int x6), (8, .long l8), (10, .long l10)]) (st' := [.int (lg_cmp xs0.toInt64 (l8 + (1)))]) rfl ?_
  exact wp_if ⟨rfl, rfl⟩ rfl (fun hc => wp_weak (re_sb_nil _) (K1 (lc1_gt hc))) (fun hc => wp_weak (re_sb_at rfl (re_sb_at rfl (re_sb_at rfl (re_sb_at rfl (re_sb_nil _))))) (K2 (lc0_gt hc)))
set_option maxRecDepth 20000 in
theorem L586_316 {SC : List Value} {d s : Nat} {h : re_H} {Q : Nat → Value → re_H → Prop} {a0 : Nat} {a2 : Nat} {x6 : Int32} {l10 : Int64}
    {xe1 : Int32} (e2 : nb_ar h a2 100 (i32 2) (.int xe1)) (K1 : xe1 = (i32 2) → wp SC 586 d s 345 [] [] h Q) (K2 : ¬ xe1 = (i32 2) → wp SC 586 d s 323 [(0, .ref a0), (2, .ref a2), (6, .int x6), (10, .long l10)] [] h Q) : wp SC 586 d s 316 [(0, .ref a0), (2, .ref a2), (6, .int x6), (10, .long l10)] [] h Q := by
  refine wp_run 2 (pc' := 318) (lv' := [(0, .ref a0), (2, .ref a2), (6, .int x6), (10, .long l10)]) (st' := [.int (i32 2), .ref a2]) rfl ?_
  obtain ⟨w2, i2, e2a, e2x, e2i, e2v⟩ := e2
  refine wp_ial ⟨rfl, rfl⟩ e2a rfl e2x e2i e2v ?_
  refine wp_run 1 (pc' := 320) (lv' := [(0, .ref a0), (2, .ref a2), (6, .int x6), (10, .long l10)]) (st' := [.int (i32 2), .int xe1]) rfl ?_
  exact wp_cmp ⟨rfl, rfl⟩ rfl (fun hc => wp_weak (re_sb_nil _) (K1 (ic1_eq hc))) (fun hc => wp_weak (re_sb_at rfl (re_sb_at rfl (re_sb_at rfl (re_sb_at rfl (re_sb_nil _))))) (K2 (ic0_eq hc)))
set_option maxRecDepth 20000 in
theorem L586_323 {SC : List Value} {d s : Nat} {h : re_H} {Q : Nat → Value → re_H → Prop} {a0 : Nat} {a2 : Nat} {x6 : Int32} {l10 : Int64}
    {c : Nat} {w : List Value} (eg : re_hg h a0 = some (c, w)) (ec : c = 0) {s1 s2 : Nat} (hs : s1 + s2 ≤ s) (K : wp SC 32 d s1 0 [(0, .ref a0), (1, .int x6)] [] h (wp_ret SC 586 (d + 1) s2 329 [(2, .ref a2), (10, .long l10)] [] Q)) : wp SC 586 (d + 1) s 323 [(0, .ref a0), (2, .ref a2), (6, .int x6), (10, .long l10)] [] h Q := by
  refine wp_run 2 (pc' := 326) (lv' := [(0, .ref a0), (2, .ref a2), (6, .int x6), (10, .long l10)]) (st' := [.int x6, .ref a0]) rfl ?_
  have eA : lv_args 0 (.ref a0 :: [.int x6].reverse) = [(0, .ref a0), (1, .int x6)] := by simp [lv_args, vc_i, vc_l, vc_r, vc_n, vc_a]
  refine wp_callV (ar := [.int x6]) (rest := []) (s1 := s1) (s2 := s2) (d' := d) ⟨rfl, rfl⟩ rfl (Or.inl rfl)  (by simp [re_cat, vc_i, vc_l, vc_r, vc_n, vc_a]) (by rw [show re_cat (.ref a0 :: [.int x6].reverse) = 2 from by simp [re_cat, vc_i, vc_l, vc_r, vc_n, vc_a]]; decide) (by decide) rfl eg ec rfl hs ?_
  rw [eA]
  exact wp_mono K (fun k v h' z => wp_ret_weak (re_sb_at rfl (re_sb_at rfl (re_sb_nil _))) z)
set_option maxRecDepth 20000 in
theorem L586_329 {SC : List Value} {d s : Nat} {h : re_H} {Q : Nat → Value → re_H → Prop} {a2 : Nat} {l10 : Int64} {xs0 : Int32}
    (K1 : ¬ xs0 = 0 → wp SC 586 d s 349 [] [] h Q) (K2 : xs0 = 0 → wp SC 586 d s 332 [(2, .ref a2), (10, .long l10)] [] h Q) : wp SC 586 d s 329 [(2, .ref a2), (10, .long l10)] [.int xs0] h Q := by
  exact wp_if ⟨rfl, rfl⟩ rfl (fun hc => wp_weak (re_sb_nil _) (K1 (ic1_ne hc))) (fun hc => wp_weak (re_sb_at rfl (re_sb_at rfl (re_sb_nil _))) (K2 (ic0_ne hc)))
set_option maxRecDepth 20000 in
theorem L586_332 {SC : List Value} {d s : Nat} {h : re_H} {Q : Nat → Value → re_H → Prop} {a2 : Nat} {l10 : Int64}
    {xe1 : Int32} (e2 : nb_ar h a2 100 (i32 2) (.int xe1)) (K1 : 0 < xe1 → wp SC 586 d s 345 [] [] h Q) (K2 : ¬ 0 < xe1 → wp SC 586 d s 338 [(10, .long l10)] [] h Q) : wp SC 586 d s 332 [(2, .ref a2), (10, .long l10)] [] h Q := by
  refine wp_run 2 (pc' := 334) (lv' := [(2, .ref a2), (10, .long l10)]) (st' := [.int (i32 2), .ref a2]) rfl ?_
  obtain ⟨w2, i2, e2a, e2x, e2i, e2v⟩ := e2
  refine wp_ial ⟨rfl, rfl⟩ e2a rfl e2x e2i e2v ?_
  exact wp_if ⟨rfl, rfl⟩ rfl (fun hc => wp_weak (re_sb_nil _) (K1 (ic1_gt hc))) (fun hc => wp_weak (re_sb_at rfl (re_sb_nil _)) (K2 (ic0_gt hc)))
set_option maxRecDepth 20000 in
theorem L586_338 {SC : List Value} {d s : Nat} {h : re_H} {Q : Nat → Value → re_H → Prop} {l10 : Int64}
    (K1 : ¬ l10 = (0) → wp SC 586 d s 349 [] [] h Q) (K2 : l10 = (0) → wp SC 586 d s 345 [] [] h Q) : wp SC 586 d s 338 [(10, .long l10)] [] h Q := by
  refine wp_run 3 (pc' := 342) (lv' := [(10, .long l10)]) (st' := [.int (lg_cmp l10 (0))]) rfl ?_
  exact wp_if ⟨rfl, rfl⟩ rfl (fun hc => wp_weak (re_sb_nil _) (K1 (lc1_ne hc))) (fun hc => wp_weak (re_sb_nil _) (K2 (lc0_ne hc)))
set_option maxRecDepth 20000 in
theorem L586_345 {SC : List Value} {d s : Nat} {h : re_H} {Q : Nat → Value → re_H → Prop} 
    (K : wp SC 586 d s 367 [] [.int (i32 1)] h Q) : wp SC 586 d s 345 [] [] h Q := by
  refine wp_run 2 (pc' := 367) (lv' := []) (st' := [.int (i32 1)]) rfl ?_
  exact wp_weak (re_sb_nil _) K
set_option maxRecDepth 20000 in
theorem L586_349 {SC : List Value} {d s : Nat} {h : re_H} {Q : Nat → Value → re_H → Prop} 
    (K : wp SC 586 d s 367 [] [.int (i32 0)] h Q) : wp SC 586 d s 349 [] [] h Q := by
  refine wp_run 2 (pc' := 367) (lv' := []) (st' := [.int (i32 0)]) rfl ?_
  exact wp_weak (re_sb_nil _) K
set_option maxRecDepth 20000 in
theorem L586_353 {SC : List Value} {d s : Nat} {h : re_H} {Q : Nat → Value → re_H → Prop} {l10 : Int64}
    (K1 : ¬ l10 = (-2000000001) → wp SC 586 d s 366 [] [] h Q) (K2 : l10 = (-2000000001) → wp SC 586 d s 362 [] [] h Q) : wp SC 586 d s 353 [(10, .long l10)] [] h Q := by
  refine wp_run 1 (pc' := 355) (lv' := [(10, .long l10)]) (st' := [.long l10]) rfl ?_
  refine wp_cst (pc' := 358) (v := .long (-2000000001)) ⟨rfl, rfl⟩ rfl rfl rfl rfl rfl ?_
  refine wp_run 1 (pc' := 359) (lv' := [(10, .long l10)]) (st' := [.int (lg_cmp l10 (-2000000001))]) rfl ?_
  exact wp_if ⟨rfl, rfl⟩ rfl (fun hc => wp_weak (re_sb_nil _) (K1 (lc1_ne hc))) (fun hc => wp_weak (re_sb_nil _) (K2 (lc0_ne hc)))
set_option maxRecDepth 20000 in
theorem L586_362 {SC : List Value} {d s : Nat} {h : re_H} {Q : Nat → Value → re_H → Prop} 
    (K : wp SC 586 d s 367 [] [.int (i32 1)] h Q) : wp SC 586 d s 362 [] [] h Q := by
  refine wp_run 2 (pc' := 367) (lv' := []) (st' := [.int (i32 1)]) rfl ?_
  exact wp_weak (re_sb_nil _) K
set_option maxRecDepth 20000 in
theorem L586_366 {SC : List Value} {d s : Nat} {h : re_H} {Q : Nat → Value → re_H → Prop} 
    (K : wp SC 586 d s 367 [] [.int (i32 0)] h Q) : wp SC 586 d s 366 [] [] h Q := by
  refine wp_run 1 (pc' := 367) (lv' := []) (st' := [.int (i32 0)]) rfl ?_
  exact wp_weak (re_sb_nil _) K
set_option maxRecDepth 20000 in
theorem L586_367 {SC : List Value} {d s : Nat} {h : re_H} {Q : Nat → Value → re_H → Prop} {xs0 : Int32}
    (hz : xs0 = 0 ∨ xs0 = 1) (K : Q 1 (.int xs0) h) : wp SC 586 d s 367 [] [.int xs0] h Q := by
  exact wp_retz ⟨rfl, rfl⟩ rfl hz K
set_option maxRecDepth 20000 in
theorem L586_368 {SC : List Value} {d s : Nat} {h : re_H} {Q : Nat → Value → re_H → Prop} {a0 : Nat} {a1 : Nat} {a2 : Nat} {x4 : Int32} {x5 : Int32} {x6 : Int32}
    (K1 : ¬ x5 < (i32 7) → wp SC 586 d s 456 [(0, .ref a0), (1, .ref a1), (2, .ref a2), (4, .int x4), (6, .int x6)] [] h Q) (K2 : x5 < (i32 7) → wp SC 586 d s 375 [(0, .ref a0), (1, .ref a1), (2, .ref a2)] [] h Q) : wp SC 586 d s 368 [(0, .ref a0), (1, .ref a1), (2, .ref a2), (4, .int x4), (5, .int x5), (6, .int x6)] [] h Q := by
  refine wp_run 1 (pc' := 370) (lv' := [(0, .ref a0), (1, .ref a1), (2, .ref a2), (4, .int x4), (5, .int x5), (6, .int x6)]) (st' := [.int x5]) rfl ?_
  refine wp_bi (x := (i32 7)) ⟨rfl, rfl⟩ (by decide) ?_
  exact wp_cmp ⟨rfl, rfl⟩ rfl (fun hc => wp_weak (re_sb_at rfl (re_sb_at rfl (re_sb_at rfl (re_sb_at rfl (re_sb_at rfl (re_sb_nil _)))))) (K1 (ic1_ge hc))) (fun hc => wp_weak (re_sb_at rfl (re_sb_at rfl (re_sb_at rfl (re_sb_nil _)))) (K2 (ic0_ge hc)))
set_option maxRecDepth 20000 in
theorem L586_375 {SC : List Value} {d s : Nat} {h : re_H} {Q : Nat → Value → re_H → Prop} {a0 : Nat} {a1 : Nat} {a2 : Nat}
    {s1 s2 : Nat} (hs : s1 + s2 ≤ s) (K : wp SC 581 d s1 0 [(0, .ref a0), (1, .ref a1), (2, .int (i32 18)), (3, .int (i32 0)), (4, .int (i32 0))] [] h (wp_ret SC 586 (d + 1) s2 384 [(0, .ref a0), (2, .ref a2)] [] Q)) : wp SC 586 (d + 1) s 375 [(0, .ref a0), (1, .ref a1), (2, .ref a2)] [] h Q := by
  refine wp_run 2 (pc' := 377) (lv' := [(0, .ref a0), (1, .ref a1), (2, .ref a2)]) (st' := [.ref a1, .ref a0]) rfl ?_
  refine wp_bi (x := (i32 18)) ⟨rfl, rfl⟩ (by decide) ?_
  refine wp_run 2 (pc' := 381) (lv' := [(0, .ref a0), (1, .ref a1), (2, .ref a2)]) (st' := [.int (i32 0), .int (i32 0), .int (i32 18), .ref a1, .ref a0]) rfl ?_
  have eA : lv_args 0 ([.int (i32 0), .int (i32 0), .int (i32 18), .ref a1, .ref a0].reverse) = [(0, .ref a0), (1, .ref a1), (2, .int (i32 18)), (3, .int (i32 0)), (4, .int (i32 0))] := by simp [lv_args, vc_i, vc_l, vc_r, vc_n, vc_a]
  refine wp_callS (ar := [.int (i32 0), .int (i32 0), .int (i32 18), .ref a1, .ref a0]) (rest := []) (s1 := s1) (s2 := s2) (d' := d) ⟨rfl, rfl⟩ rfl (Or.inl rfl) rfl (by simp [re_cat, vc_i, vc_l, vc_r, vc_n, vc_a]) (by rw [show re_cat ([.int (i32 0), .int (i32 0), .int (i32 18), .ref a1, .ref a0].reverse) = 5 from by simp [re_cat, vc_i, vc_l, vc_r, vc_n, vc_a]]; decide) (by decide) rfl rfl hs ?_
  rw [eA]
  exact wp_mono K (fun k v h' z => wp_ret_weak (re_sb_at rfl (re_sb_at rfl (re_sb_nil _))) z)
set_option maxRecDepth 20000 in
theorem L586_384 {SC : List Value} {d s : Nat} {h : re_H} {Q : Nat → Value → re_H → Prop} {a0 : Nat} {a2 : Nat} {ls0 : Int64}
    {xe1 : Int32} (e2 : nb_ar h a2 100 (i32 3) (.int xe1)) (K1 : ls0 < (0) → wp SC 586 d s 401 [(0, .ref a0), (2, .ref a2), (7, .long ls0)] [.int xe1, .int (i32 3), .ref a2] h Q) (K2 : ¬ ls0 < (0) → wp SC 586 d s 397 [(0, .ref a0), (2, .ref a2), (7, .long ls0)] [.int xe1, .int (i32 3), .ref a2] h Q) : wp SC 586 d s 384 [(0, .ref a0), (2, .ref a2)] [.long ls0] h Q := by
  refine wp_run 4 (pc' := 389) (lv' := [(7, .long ls0), (0, .ref a0), (2, .ref a2)]) (st' := [.int (i32 3), .ref a2, .int (i32 3), .ref a2]) rfl ?_
  obtain ⟨w2, i2, e2a, e2x, e2i, e2v⟩ := e2
  refine wp_ial ⟨rfl, rfl⟩ e2a rfl e2x e2i e2v ?_
  refine wp_run 3 (pc' := 394) (lv' := [(7, .long ls0), (0, .ref a0), (2, .ref a2)]) (st' := [.int (lg_cmp ls0 (0)), .int xe1, .int (i32 3), .ref a2]) rfl ?_
  exact wp_if ⟨rfl, rfl⟩ rfl (fun hc => wp_weak (re_sb_at rfl (re_sb_at rfl (re_sb_at rfl (re_sb_nil _)))) (K1 (lc1_lt hc))) (fun hc => wp_weak (re_sb_at rfl (re_sb_at rfl (re_sb_at rfl (re_sb_nil _)))) (K2 (lc0_lt hc)))
set_option maxRecDepth 20000 in
theorem L586_397 {SC : List Value} {d s : Nat} {h : re_H} {Q : Nat → Value → re_H → Prop} {a0 : Nat} {a2 : Nat} {l7 : Int64} {xs0 : Int32} {xs1 : Int32} {as2 : Nat}
    (K : wp SC 586 d s 402 [(0, .ref a0), (2, .ref a2), (7, .long l7)] [.int (i32 1), .int xs0, .int xs1, .ref as2] h Q) : wp SC 586 d s 397 [(0, .ref a0), (2, .ref a2), (7, .long l7)] [.int xs0, .int xs1, .ref as2] h Q := by
  refine wp_run 2 (pc' := 402) (lv' := [(0, .ref a0), (2, .ref a2), (7, .long l7)]) (st' := [.int (i32 1), .int xs0, .int xs1, .ref as2]) rfl ?_
  exact wp_weak (re_sb_at rfl (re_sb_at rfl (re_sb_at rfl (re_sb_nil _)))) K
set_option maxRecDepth 20000 in
theorem L586_401 {SC : List Value} {d s : Nat} {h : re_H} {Q : Nat → Value → re_H → Prop} {a0 : Nat} {a2 : Nat} {l7 : Int64} {xs0 : Int32} {xs1 : Int32} {as2 : Nat}
    (K : wp SC 586 d s 402 [(0, .ref a0), (2, .ref a2), (7, .long l7)] [.int (i32 0), .int xs0, .int xs1, .ref as2] h Q) : wp SC 586 d s 401 [(0, .ref a0), (2, .ref a2), (7, .long l7)] [.int xs0, .int xs1, .ref as2] h Q := by
  refine wp_run 1 (pc' := 402) (lv' := [(0, .ref a0), (2, .ref a2), (7, .long l7)]) (st' := [.int (i32 0), .int xs0, .int xs1, .ref as2]) rfl ?_
  exact wp_weak (re_sb_at rfl (re_sb_at rfl (re_sb_at rfl (re_sb_nil _)))) K
set_option maxRecDepth 20000 in
theorem L586_402 {SC : List Value} {d s : Nat} {h : re_H} {Q : Nat → Value → re_H → Prop} {a0 : Nat} {a2 : Nat} {l7 : Int64} {xs0 : Int32} {xs1 : Int32} {xs2 : Int32} {as3 : Nat}
    {w : List Value} {i : Nat} (e : re_hg h as3 = some (100, w)) (hx : xs2 = i32 i) (hi : i < 2147483648) (hl : i < w.length) (K : wp SC 586 d s 404 [(0, .ref a0), (2, .ref a2), (7, .long l7)] [] (re_hw h as3 (100, w.set i (.int (xs1 + xs0)))) Q) : wp SC 586 d s 402 [(0, .ref a0), (2, .ref a2), (7, .long l7)] [.int xs0, .int xs1, .int xs2, .ref as3] h Q := by
  refine wp_run 1 (pc' := 403) (lv' := [(0, .ref a0), (2, .ref a2), (7, .long l7)]) (st' := [.int (xs1 + xs0), .int xs2, .ref as3]) rfl ?_
  exact wp_ias ⟨rfl, rfl⟩ e rfl hx hi hl (wp_weak (re_sb_at rfl (re_sb_at rfl (re_sb_at rfl (re_sb_nil _)))) K)
set_option maxRecDepth 20000 in
theorem L586_404 {SC : List Value} {d s : Nat} {h : re_H} {Q : Nat → Value → re_H → Prop} {a0 : Nat} {a2 : Nat} {l7 : Int64}
    (K1 : ¬ l7 = (-2000000003) → wp SC 586 d s 428 [(0, .ref a0), (2, .ref a2), (7, .long l7)] [] h Q) (K2 : l7 = (-2000000003) → wp SC 586 d s 413 [(2, .ref a2)] [] h Q) : wp SC 586 d s 404 [(0, .ref a0), (2, .ref a2), (7, .long l7)] [] h Q := by
  refine wp_run 1 (pc' := 406) (lv' := [(0, .ref a0), (2, .ref a2), (7, .long l7)]) (st' := [.long l7]) rfl ?_
  refine wp_cst (pc' := 409) (v := .long (-2000000003)) ⟨rfl, rfl⟩ rfl rfl rfl rfl rfl ?_
  refine wp_run 1 (pc' := 410) (lv' := [(0, .ref a0), (2, .ref a2), (7, .long l7)]) (st' := [.int (lg_cmp l7 (-2000000003))]) rfl ?_
  exact wp_if ⟨rfl, rfl⟩ rfl (fun hc => wp_weak (re_sb_at rfl (re_sb_at rfl (re_sb_at rfl (re_sb_nil _)))) (K1 (lc1_ne hc))) (fun hc => wp_weak (re_sb_at rfl (re_sb_nil _)) (K2 (lc0_ne hc)))
set_option maxRecDepth 20000 in
theorem L586_413 {SC : List Value} {d s : Nat} {h : re_H} {Q : Nat → Value → re_H → Prop} {a2 : Nat}
    {xe1 : Int32} (e2 : nb_ar h a2 100 (i32 3) (.int xe1)) (K1 : ¬ xe1 = (i32 4) → wp SC 586 d s 424 [] [] h Q) (K2 : xe1 = (i32 4) → wp SC 586 d s 420 [] [] h Q) : wp SC 586 d s 413 [(2, .ref a2)] [] h Q := by
  refine wp_run 2 (pc' := 415) (lv' := [(2, .ref a2)]) (st' := [.int (i32 3), .ref a2]) rfl ?_
  obtain ⟨w2, i2, e2a, e2x, e2i, e2v⟩ := e2
  refine wp_ial ⟨rfl, rfl⟩ e2a rfl e2x e2i e2v ?_
  refine wp_run 1 (pc' := 417) (lv' := [(2, .ref a2)]) (st' := [.int (i32 4), .int xe1]) rfl ?_
  exact wp_cmp ⟨rfl, rfl⟩ rfl (fun hc => wp_weak (re_sb_nil _) (K1 (ic1_ne hc))) (fun hc => wp_weak (re_sb_nil _) (K2 (ic0_ne hc)))
set_option maxRecDepth 20000 in
theorem L586_420 {SC : List Value} {d s : Nat} {h : re_H} {Q : Nat → Value → re_H → Prop} 
    (K : wp SC 586 d s 455 [] [.int (i32 1)] h Q) : wp SC 586 d s 420 [] [] h Q := by
  refine wp_run 2 (pc' := 455) (lv' := []) (st' := [.int (i32 1)]) rfl ?_
  exact wp_weak (re_sb_nil _) K
set_option maxRecDepth 20000 in
theorem L586_424 {SC : List Value} {d s : Nat} {h : re_H} {Q : Nat → Value → re_H → Prop} 
    (K : wp SC 586 d s 455 [] [.int (i32 0)] h Q) : wp SC 586 d s 424 [] [] h Q := by
  refine wp_run 2 (pc' := 455) (lv' := []) (st' := [.int (i32 0)]) rfl ?_
  exact wp_weak (re_sb_nil _) K
set_option maxRecDepth 20000 in
theorem L586_428 {SC : List Value} {d s : Nat} {h : re_H} {Q : Nat → Value → re_H → Prop} {a0 : Nat} {a2 : Nat} {l7 : Int64}
    {xe1 : Int32} (e2 : nb_ar h a2 100 (i32 3) (.int xe1)) (K1 : ¬ (lg_cmp l7 (xe1 - (i32 1)).toInt64) = 0 → wp SC 586 d s 454 [] [] h Q) (K2 : (lg_cmp l7 (xe1 - (i32 1)).toInt64) = 0 → wp SC 586 d s 440 [(0, .ref a0), (7, .long l7)] [] h Q) : wp SC 586 d s 428 [(0, .ref a0), (2, .ref a2), (7, .long l7)] [] h Q := by
  refine wp_run 3 (pc' := 432) (lv' := [(0, .ref a0), (2, .ref a2), (7, .long l7)]) (st' := [.int (i32 3), .ref a2, .long l7]) rfl ?_
  obtain ⟨w2, i2, e2a, e2x, e2i, e2v⟩ := e2
  refine wp_ial ⟨rfl, rfl⟩ e2a rfl e2x e2i e2v ?_
  refine wp_run 4 (pc' := 437) (lv' := [(0, .ref a0), (2, .ref a2), (7, .long l7)]) (st' := [.int (lg_cmp l7 (xe1 - (i32 1)).toInt64)]) rfl ?_
  exact wp_if ⟨rfl, rfl⟩ rfl (fun hc => wp_weak (re_sb_nil _) (K1 (ic1_ne hc))) (fun hc => wp_weak (re_sb_at rfl (re_sb_at rfl (re_sb_nil _))) (K2 (ic0_ne hc)))
set_option maxRecDepth 20000 in
theorem L586_440 {SC : List Value} {d s : Nat} {h : re_H} {Q : Nat → Value → re_H → Prop} {a0 : Nat} {l7 : Int64}
    {c : Nat} {w : List Value} (eg : re_hg h a0 = some (c, w)) (ec : c = 0) {s1 s2 : Nat} (hs : s1 + s2 ≤ s) (K : wp SC 30 d s1 0 [(0, .ref a0), (1, .int l7.toInt32)] [] h (wp_ret SC 586 (d + 1) s2 447 [] [] Q)) : wp SC 586 (d + 1) s 440 [(0, .ref a0), (7, .long l7)] [] h Q := by
  refine wp_run 3 (pc' := 444) (lv' := [(0, .ref a0), (7, .long l7)]) (st' := [.int l7.toInt32, .ref a0]) rfl ?_
  have eA : lv_args 0 (.ref a0 :: [.int l7.toInt32].reverse) = [(0, .ref a0), (1, .int l7.toInt32)] := by simp [lv_args, vc_i, vc_l, vc_r, vc_n, vc_a]
  refine wp_callV (ar := [.int l7.toInt32]) (rest := []) (s1 := s1) (s2 := s2) (d' := d) ⟨rfl, rfl⟩ rfl (Or.inl rfl)  (by simp [re_cat, vc_i, vc_l, vc_r, vc_n, vc_a]) (by rw [show re_cat (.ref a0 :: [.int l7.toInt32].reverse) = 2 from by simp [re_cat, vc_i, vc_l, vc_r, vc_n, vc_a]]; decide) (by decide) rfl eg ec rfl hs ?_
  rw [eA]
  exact wp_mono K (fun k v h' z => wp_ret_weak (re_sb_nil _) z)
set_option maxRecDepth 20000 in
theorem L586_447 {SC : List Value} {d s : Nat} {h : re_H} {Q : Nat → Value → re_H → Prop} {xs0 : Int32}
    (K1 : ¬ xs0 = 0 → wp SC 586 d s 454 [] [] h Q) (K2 : xs0 = 0 → wp SC 586 d s 450 [] [] h Q) : wp SC 586 d s 447 [] [.int xs0] h Q := by
  exact wp_if ⟨rfl, rfl⟩ rfl (fun hc => wp_weak (re_sb_nil _) (K1 (ic1_ne hc))) (fun hc => wp_weak (re_sb_nil _) (K2 (ic0_ne hc)))
set_option maxRecDepth 20000 in
theorem L586_450 {SC : List Value} {d s : Nat} {h : re_H} {Q : Nat → Value → re_H → Prop} 
    (K : wp SC 586 d s 455 [] [.int (i32 1)] h Q) : wp SC 586 d s 450 [] [] h Q := by
  refine wp_run 2 (pc' := 455) (lv' := []) (st' := [.int (i32 1)]) rfl ?_
  exact wp_weak (re_sb_nil _) K
set_option maxRecDepth 20000 in
theorem L586_454 {SC : List Value} {d s : Nat} {h : re_H} {Q : Nat → Value → re_H → Prop} 
    (K : wp SC 586 d s 455 [] [.int (i32 0)] h Q) : wp SC 586 d s 454 [] [] h Q := by
  refine wp_run 1 (pc' := 455) (lv' := []) (st' := [.int (i32 0)]) rfl ?_
  exact wp_weak (re_sb_nil _) K
set_option maxRecDepth 20000 in
theorem L586_455 {SC : List Value} {d s : Nat} {h : re_H} {Q : Nat → Value → re_H → Prop} {xs0 : Int32}
    (hz : xs0 = 0 ∨ xs0 = 1) (K : Q 1 (.int xs0) h) : wp SC 586 d s 455 [] [.int xs0] h Q := by
  exact wp_retz ⟨rfl, rfl⟩ rfl hz K
set_option maxRecDepth 20000 in
theorem L586_456 {SC : List Value} {d s : Nat} {h : re_H} {Q : Nat → Value → re_H → Prop} {a0 : Nat} {a1 : Nat} {a2 : Nat} {x4 : Int32} {x6 : Int32}
    {xe1 : Int32} (e2 : nb_ar h a2 100 (i32 3) (.int xe1)) (K : wp SC 577 d 0 0 [(0, .int (x4 >>> ((i32 5) &&& 31))), (1, .int (xe1 + (i32 1)))] [] h (wp_ret SC 586 (d + 1) s 468 [(0, .ref a0), (1, .ref a1), (2, .ref a2), (6, .int x6)] [] Q)) : wp SC 586 (d + 1) s 456 [(0, .ref a0), (1, .ref a1), (2, .ref a2), (4, .int x4), (6, .int x6)] [] h Q := by
  refine wp_run 5 (pc' := 462) (lv' := [(0, .ref a0), (1, .ref a1), (2, .ref a2), (4, .int x4), (6, .int x6)]) (st' := [.int (i32 3), .ref a2, .int (x4 >>> ((i32 5) &&& 31))]) rfl ?_
  obtain ⟨w2, i2, e2a, e2x, e2i, e2v⟩ := e2
  refine wp_ial ⟨rfl, rfl⟩ e2a rfl e2x e2i e2v ?_
  refine wp_run 2 (pc' := 465) (lv' := [(0, .ref a0), (1, .ref a1), (2, .ref a2), (4, .int x4), (6, .int x6)]) (st' := [.int (xe1 + (i32 1)), .int (x4 >>> ((i32 5) &&& 31))]) rfl ?_
  have eA : lv_args 0 ([.int (xe1 + (i32 1)), .int (x4 >>> ((i32 5) &&& 31))].reverse) = [(0, .int (x4 >>> ((i32 5) &&& 31))), (1, .int (xe1 + (i32 1)))] := by simp [lv_args, vc_i, vc_l, vc_r, vc_n, vc_a]
  refine wp_callS (ar := [.int (xe1 + (i32 1)), .int (x4 >>> ((i32 5) &&& 31))]) (rest := []) (s1 := 0) (s2 := s) (d' := d) ⟨rfl, rfl⟩ rfl (Or.inl rfl) rfl (by simp [re_cat, vc_i, vc_l, vc_r, vc_n, vc_a]) (by rw [show re_cat ([.int (xe1 + (i32 1)), .int (x4 >>> ((i32 5) &&& 31))].reverse) = 2 from by simp [re_cat, vc_i, vc_l, vc_r, vc_n, vc_a]]; decide) (by decide) rfl rfl (Nat.le_of_eq (Nat.zero_add s)) ?_
  rw [eA]
  exact wp_mono K (fun k v h' z => wp_ret_weak (re_sb_at rfl (re_sb_at rfl (re_sb_at rfl (re_sb_at rfl (re_sb_nil _))))) z)
set_option maxRecDepth 20000 in
theorem L586_468 {SC : List Value} {d s : Nat} {h : re_H} {Q : Nat → Value → re_H → Prop} {a0 : Nat} {a1 : Nat} {a2 : Nat} {x6 : Int32} {xs0 : Int32}
    {s1 s2 : Nat} (hs : s1 + s2 ≤ s) (K : wp SC 579 d s1 0 [(0, .ref a0), (1, .int (i32 20)), (2, .int xs0), (3, .int (i32 0))] [] h (wp_ret SC 586 (d + 1) s2 479 [(0, .ref a0), (1, .ref a1), (2, .ref a2), (6, .int x6), (7, .int xs0)] [] Q)) : wp SC 586 (d + 1) s 468 [(0, .ref a0), (1, .ref a1), (2, .ref a2), (6, .int x6)] [.int xs0] h Q := by
  refine wp_run 2 (pc' := 471) (lv' := [(7, .int xs0), (0, .ref a0), (1, .ref a1), (2, .ref a2), (6, .int x6)]) (st' := [.ref a0]) rfl ?_
  refine wp_bi (x := (i32 20)) ⟨rfl, rfl⟩ (by decide) ?_
  refine wp_run 2 (pc' := 476) (lv' := [(7, .int xs0), (0, .ref a0), (1, .ref a1), (2, .ref a2), (6, .int x6)]) (st' := [.int (i32 0), .int xs0, .int (i32 20), .ref a0]) rfl ?_
  have eA : lv_args 0 ([.int (i32 0), .int xs0, .int (i32 20), .ref a0].reverse) = [(0, .ref a0), (1, .int (i32 20)), (2, .int xs0), (3, .int (i32 0))] := by simp [lv_args, vc_i, vc_l, vc_r, vc_n, vc_a]
  refine wp_callS (ar := [.int (i32 0), .int xs0, .int (i32 20), .ref a0]) (rest := []) (s1 := s1) (s2 := s2) (d' := d) ⟨rfl, rfl⟩ rfl (Or.inr (Or.inr rfl)) rfl (by simp [re_cat, vc_i, vc_l, vc_r, vc_n, vc_a]) (by rw [show re_cat ([.int (i32 0), .int xs0, .int (i32 20), .ref a0].reverse) = 4 from by simp [re_cat, vc_i, vc_l, vc_r, vc_n, vc_a]]; decide) (by decide) rfl rfl hs ?_
  rw [eA]
  exact wp_mono K (fun k v h' z => wp_ret_weak (re_sb_at rfl (re_sb_at rfl (re_sb_at rfl (re_sb_at rfl (re_sb_at rfl (re_sb_nil _)))))) z)
set_option maxRecDepth 20000 in
theorem L586_479 {SC : List Value} {d s : Nat} {h : re_H} {Q : Nat → Value → re_H → Prop} {a0 : Nat} {a1 : Nat} {a2 : Nat} {x6 : Int32} {x7 : Int32} {ls0 : Int64}
    {s1 s2 : Nat} (hs : s1 + s2 ≤ s) (K : wp SC 581 d s1 0 [(0, .ref a0), (1, .ref a1), (2, .int (i32 19)), (3, .int x7), (4, .int x6)] [] h (wp_ret SC 586 (d + 1) s2 492 [(0, .ref a0), (1, .ref a1), (2, .ref a2), (6, .int x6), (7, .int x7), (8, .long ls0)] [] Q)) : wp SC 586 (d + 1) s 479 [(0, .ref a0), (1, .ref a1), (2, .ref a2), (6, .int x6), (7, .int x7)] [.long ls0] h Q := by
  refine wp_run 3 (pc' := 483) (lv' := [(8, .long ls0), (0, .ref a0), (1, .ref a1), (2, .ref a2), (6, .int x6), (7, .int x7)]) (st' := [.ref a1, .ref a0]) rfl ?_
  refine wp_bi (x := (i32 19)) ⟨rfl, rfl⟩ (by decide) ?_
  refine wp_run 2 (pc' := 489) (lv' := [(8, .long ls0), (0, .ref a0), (1, .ref a1), (2, .ref a2), (6, .int x6), (7, .int x7)]) (st' := [.int x6, .int x7, .int (i32 19), .ref a1, .ref a0]) rfl ?_
  have eA : lv_args 0 ([.int x6, .int x7, .int (i32 19), .ref a1, .ref a0].reverse) = [(0, .ref a0), (1, .ref a1), (2, .int (i32 19)), (3, .int x7), (4, .int x6)] := by simp [lv_args, vc_i, vc_l, vc_r, vc_n, vc_a]
  refine wp_callS (ar := [.int x6, .int x7, .int (i32 19), .ref a1, .ref a0]) (rest := []) (s1 := s1) (s2 := s2) (d' := d) ⟨rfl, rfl⟩ rfl (Or.inl rfl) rfl (by simp [re_cat, vc_i, vc_l, vc_r, vc_n, vc_a]) (by rw [show re_cat ([.int x6, .int x7, .int (i32 19), .ref a1, .ref a0].reverse) = 5 from by simp [re_cat, vc_i, vc_l, vc_r, vc_n, vc_a]]; decide) (by decide) rfl rfl hs ?_
  rw [eA]
  exact wp_mono K (fun k v h' z => wp_ret_weak (re_sb_at rfl (re_sb_at rfl (re_sb_at rfl (re_sb_at rfl (re_sb_at rfl (re_sb_at rfl (re_sb_nil _))))))) z)
set_option maxRecDepth 20000 in
theorem L586_492 {SC : List Value} {d s : Nat} {h : re_H} {Q : Nat → Value → re_H → Prop} {a0 : Nat} {a1 : Nat} {a2 : Nat} {x6 : Int32} {x7 : Int32} {l8 : Int64} {ls0 : Int64}
    (K1 : ¬ ls0 = (-2000000001) → wp SC 586 d s 525 [(0, .ref a0), (1, .ref a1), (6, .int x6), (7, .int x7), (8, .long l8), (10, .long ls0)] [] h Q) (K2 : ls0 = (-2000000001) → wp SC 586 d s 503 [(2, .ref a2), (6, .int x6), (7, .int x7)] [] h Q) : wp SC 586 d s 492 [(0, .ref a0), (1, .ref a1), (2, .ref a2), (6, .int x6), (7, .int x7), (8, .long l8)] [.long ls0] h Q := by
  refine wp_run 2 (pc' := 496) (lv' := [(10, .long ls0), (0, .ref a0), (1, .ref a1), (2, .ref a2), (6, .int x6), (7, .int x7), (8, .long l8)]) (st' := [.long ls0]) rfl ?_
  refine wp_cst (pc' := 499) (v := .long (-2000000001)) ⟨rfl, rfl⟩ rfl rfl rfl rfl rfl ?_
  refine wp_run 1 (pc' := 500) (lv' := [(10, .long ls0), (0, .ref a0), (1, .ref a1), (2, .ref a2), (6, .int x6), (7, .int x7), (8, .long l8)]) (st' := [.int (lg_cmp ls0 (-2000000001))]) rfl ?_
  exact wp_if ⟨rfl, rfl⟩ rfl (fun hc => wp_weak (re_sb_at rfl (re_sb_at rfl (re_sb_at rfl (re_sb_at rfl (re_sb_at rfl (re_sb_at rfl (re_sb_nil _))))))) (K1 (lc1_ne hc))) (fun hc => wp_weak (re_sb_at rfl (re_sb_at rfl (re_sb_at rfl (re_sb_nil _)))) (K2 (lc0_ne hc)))
set_option maxRecDepth 20000 in
theorem L586_503 {SC : List Value} {d s : Nat} {h : re_H} {Q : Nat → Value → re_H → Prop} {a2 : Nat} {x6 : Int32} {x7 : Int32}
    {xe1 : Int32} (e2 : nb_ar h a2 100 (i32 3) (.int xe1)) (K1 : x7 = xe1 → wp SC 586 d s 519 [] [] h Q) (K2 : ¬ x7 = xe1 → wp SC 586 d s 511 [(2, .ref a2), (6, .int x6)] [] h Q) : wp SC 586 d s 503 [(2, .ref a2), (6, .int x6), (7, .int x7)] [] h Q := by
  refine wp_run 3 (pc' := 507) (lv' := [(2, .ref a2), (6, .int x6), (7, .int x7)]) (st' := [.int (i32 3), .ref a2, .int x7]) rfl ?_
  obtain ⟨w2, i2, e2a, e2x, e2i, e2v⟩ := e2
  refine wp_ial ⟨rfl, rfl⟩ e2a rfl e2x e2i e2v ?_
  exact wp_cmp ⟨rfl, rfl⟩ rfl (fun hc => wp_weak (re_sb_nil _) (K1 (ic1_eq hc))) (fun hc => wp_weak (re_sb_at rfl (re_sb_at rfl (re_sb_nil _))) (K2 (ic0_eq hc)))
set_option maxRecDepth 20000 in
theorem L586_511 {SC : List Value} {d s : Nat} {h : re_H} {Q : Nat → Value → re_H → Prop} {a2 : Nat} {x6 : Int32}
    {xe1 : Int32} (e2 : nb_ar h a2 100 (i32 1) (.int xe1)) (K1 : x6 < xe1 → wp SC 586 d s 523 [] [] h Q) (K2 : ¬ x6 < xe1 → wp SC 586 d s 519 [] [] h Q) : wp SC 586 d s 511 [(2, .ref a2), (6, .int x6)] [] h Q := by
  refine wp_run 3 (pc' := 515) (lv' := [(2, .ref a2), (6, .int x6)]) (st' := [.int (i32 1), .ref a2, .int x6]) rfl ?_
  obtain ⟨w2, i2, e2a, e2x, e2i, e2v⟩ := e2
  refine wp_ial ⟨rfl, rfl⟩ e2a rfl e2x e2i e2v ?_
  exact wp_cmp ⟨rfl, rfl⟩ rfl (fun hc => wp_weak (re_sb_nil _) (K1 (ic1_lt hc))) (fun hc => wp_weak (re_sb_nil _) (K2 (ic0_lt hc)))
set_option maxRecDepth 20000 in
theorem L586_519 {SC : List Value} {d s : Nat} {h : re_H} {Q : Nat → Value → re_H → Prop} 
    (K : wp SC 586 d s 524 [] [.int (i32 1)] h Q) : wp SC 586 d s 519 [] [] h Q := by
  refine wp_run 2 (pc' := 524) (lv' := []) (st' := [.int (i32 1)]) rfl ?_
  exact wp_weak (re_sb_nil _) K
set_option maxRecDepth 20000 in
theorem L586_523 {SC : List Value} {d s : Nat} {h : re_H} {Q : Nat → Value → re_H → Prop} 
    (K : wp SC 586 d s 524 [] [.int (i32 0)] h Q) : wp SC 586 d s 523 [] [] h Q := by
  refine wp_run 1 (pc' := 524) (lv' := []) (st' := [.int (i32 0)]) rfl ?_
  exact wp_weak (re_sb_nil _) K
set_option maxRecDepth 20000 in
theorem L586_524 {SC : List Value} {d s : Nat} {h : re_H} {Q : Nat → Value → re_H → Prop} {xs0 : Int32}
    (hz : xs0 = 0 ∨ xs0 = 1) (K : Q 1 (.int xs0) h) : wp SC 586 d s 524 [] [.int xs0] h Q := by
  exact wp_retz ⟨rfl, rfl⟩ rfl hz K
set_option maxRecDepth 20000 in
theorem L586_525 {SC : List Value} {d s : Nat} {h : re_H} {Q : Nat → Value → re_H → Prop} {a0 : Nat} {a1 : Nat} {x6 : Int32} {x7 : Int32} {l8 : Int64} {l10 : Int64}
    (K1 : ¬ l10 = ((l8 >>> (x6.toInt64 &&& 63)) &&& (1)) → wp SC 586 d s 572 [] [] h Q) (K2 : l10 = ((l8 >>> (x6.toInt64 &&& 63)) &&& (1)) → wp SC 586 d s 538 [(0, .ref a0), (1, .ref a1), (6, .int x6), (7, .int x7)] [] h Q) : wp SC 586 d s 525 [(0, .ref a0), (1, .ref a1), (6, .int x6), (7, .int x7), (8, .long l8), (10, .long l10)] [] h Q := by
  refine wp_run 7 (pc' := 535) (lv' := [(0, .ref a0), (1, .ref a1), (6, .int x6), (7, .int x7), (8, .long l8), (10, .long l10)]) (st' := [.int (lg_cmp l10 ((l8 >>> (x6.toInt64 &&& 63)) &&& (1)))]) rfl ?_
  exact wp_if ⟨rfl, rfl⟩ rfl (fun hc => wp_weak (re_sb_nil _) (K1 (lc1_ne hc))) (fun hc => wp_weak (re_sb_at rfl (re_sb_at rfl (re_sb_at rfl (re_sb_at rfl (re_sb_nil _))))) (K2 (lc0_ne hc)))
set_option maxRecDepth 20000 in
theorem L586_538 {SC : List Value} {d s : Nat} {h : re_H} {Q : Nat → Value → re_H → Prop} {a0 : Nat} {a1 : Nat} {x6 : Int32} {x7 : Int32}
    {c : Nat} {w : List Value} (eg : re_hg h a0 = some (c, w)) (ec : c = 0) {s1 s2 : Nat} (hs : s1 + s2 ≤ s) (K : wp SC 30 d s1 0 [(0, .ref a0), (1, .int x7)] [] h (wp_ret SC 586 (d + 1) s2 544 [(0, .ref a0), (1, .ref a1), (6, .int x6), (7, .int x7)] [] Q)) : wp SC 586 (d + 1) s 538 [(0, .ref a0), (1, .ref a1), (6, .int x6), (7, .int x7)] [] h Q := by
  refine wp_run 2 (pc' := 541) (lv' := [(0, .ref a0), (1, .ref a1), (6, .int x6), (7, .int x7)]) (st' := [.int x7, .ref a0]) rfl ?_
  have eA : lv_args 0 (.ref a0 :: [.int x7].reverse) = [(0, .ref a0), (1, .int x7)] := by simp [lv_args, vc_i, vc_l, vc_r, vc_n, vc_a]
  refine wp_callV (ar := [.int x7]) (rest := []) (s1 := s1) (s2 := s2) (d' := d) ⟨rfl, rfl⟩ rfl (Or.inl rfl)  (by simp [re_cat, vc_i, vc_l, vc_r, vc_n, vc_a]) (by rw [show re_cat (.ref a0 :: [.int x7].reverse) = 2 from by simp [re_cat, vc_i, vc_l, vc_r, vc_n, vc_a]]; decide) (by decide) rfl eg ec rfl hs ?_
  rw [eA]
  exact wp_mono K (fun k v h' z => wp_ret_weak (re_sb_at rfl (re_sb_at rfl (re_sb_at rfl (re_sb_at rfl (re_sb_nil _))))) z)
set_option maxRecDepth 20000 in
theorem L586_544 {SC : List Value} {d s : Nat} {h : re_H} {Q : Nat → Value → re_H → Prop} {a0 : Nat} {a1 : Nat} {x6 : Int32} {x7 : Int32} {xs0 : Int32}
    (K1 : ¬ ((xs0 >>> (x6 &&& 31)) &&& (i32 1)) = 0 → wp SC 586 d s 572 [] [] h Q) (K2 : ((xs0 >>> (x6 &&& 31)) &&& (i32 1)) = 0 → wp SC 586 d s 552 [(0, .ref a0), (1, .ref a1), (6, .int x6), (7, .int x7)] [] h Q) : wp SC 586 d s 544 [(0, .ref a0), (1, .ref a1), (6, .int x6), (7, .int x7)] [.int xs0] h Q := by
  refine wp_run 4 (pc' := 549) (lv' := [(0, .ref a0), (1, .ref a1), (6, .int x6), (7, .int x7)]) (st' := [.int ((xs0 >>> (x6 &&& 31)) &&& (i32 1))]) rfl ?_
  exact wp_if ⟨rfl, rfl⟩ rfl (fun hc => wp_weak (re_sb_nil _) (K1 (ic1_ne hc))) (fun hc => wp_weak (re_sb_at rfl (re_sb_at rfl (re_sb_at rfl (re_sb_at rfl (re_sb_nil _))))) (K2 (ic0_ne hc)))
set_option maxRecDepth 20000 in
theorem L586_552 {SC : List Value} {d s : Nat} {h : re_H} {Q : Nat → Value → re_H → Prop} {a0 : Nat} {a1 : Nat} {x6 : Int32} {x7 : Int32}
    {s1 s2 : Nat} (hs : s1 + s2 ≤ s) (K : wp SC 581 d s1 0 [(0, .ref a0), (1, .ref a1), (2, .int (i32 19)), (3, .int x7), (4, .int x6)] [] h (wp_ret SC 586 (d + 1) s2 563 [] [] Q)) : wp SC 586 (d + 1) s 552 [(0, .ref a0), (1, .ref a1), (6, .int x6), (7, .int x7)] [] h Q := by
  refine wp_run 2 (pc' := 554) (lv' := [(0, .ref a0), (1, .ref a1), (6, .int x6), (7, .int x7)]) (st' := [.ref a1, .ref a0]) rfl ?_
  refine wp_bi (x := (i32 19)) ⟨rfl, rfl⟩ (by decide) ?_
  refine wp_run 2 (pc' := 560) (lv' := [(0, .ref a0), (1, .ref a1), (6, .int x6), (7, .int x7)]) (st' := [.int x6, .int x7, .int (i32 19), .ref a1, .ref a0]) rfl ?_
  have eA : lv_args 0 ([.int x6, .int x7, .int (i32 19), .ref a1, .ref a0].reverse) = [(0, .ref a0), (1, .ref a1), (2, .int (i32 19)), (3, .int x7), (4, .int x6)] := by simp [lv_args, vc_i, vc_l, vc_r, vc_n, vc_a]
  refine wp_callS (ar := [.int x6, .int x7, .int (i32 19), .ref a1, .ref a0]) (rest := []) (s1 := s1) (s2 := s2) (d' := d) ⟨rfl, rfl⟩ rfl (Or.inl rfl) rfl (by simp [re_cat, vc_i, vc_l, vc_r, vc_n, vc_a]) (by rw [show re_cat ([.int x6, .int x7, .int (i32 19), .ref a1, .ref a0].reverse) = 5 from by simp [re_cat, vc_i, vc_l, vc_r, vc_n, vc_a]]; decide) (by decide) rfl rfl hs ?_
  rw [eA]
  exact wp_mono K (fun k v h' z => wp_ret_weak (re_sb_nil _) z)
set_option maxRecDepth 20000 in
theorem L586_563 {SC : List Value} {d s : Nat} {h : re_H} {Q : Nat → Value → re_H → Prop} {ls0 : Int64}
    (K1 : ¬ ls0 = (0) → wp SC 586 d s 572 [] [] h Q) (K2 : ls0 = (0) → wp SC 586 d s 568 [] [] h Q) : wp SC 586 d s 563 [] [.long ls0] h Q := by
  refine wp_run 2 (pc' := 565) (lv' := []) (st' := [.int (lg_cmp ls0 (0))]) rfl ?_
  exact wp_if ⟨rfl, rfl⟩ rfl (fun hc => wp_weak (re_sb_nil _) (K1 (lc1_ne hc))) (fun hc => wp_weak (re_sb_nil _) (K2 (lc0_ne hc)))
set_option maxRecDepth 20000 in
theorem L586_568 {SC : List Value} {d s : Nat} {h : re_H} {Q : Nat → Value → re_H → Prop} 
    (K : wp SC 586 d s 573 [] [.int (i32 1)] h Q) : wp SC 586 d s 568 [] [] h Q := by
  refine wp_run 2 (pc' := 573) (lv' := []) (st' := [.int (i32 1)]) rfl ?_
  exact wp_weak (re_sb_nil _) K
set_option maxRecDepth 20000 in
theorem L586_572 {SC : List Value} {d s : Nat} {h : re_H} {Q : Nat → Value → re_H → Prop} 
    (K : wp SC 586 d s 573 [] [.int (i32 0)] h Q) : wp SC 586 d s 572 [] [] h Q := by
  refine wp_run 1 (pc' := 573) (lv' := []) (st' := [.int (i32 0)]) rfl ?_
  exact wp_weak (re_sb_nil _) K
set_option maxRecDepth 20000 in
theorem L586_573 {SC : List Value} {d s : Nat} {h : re_H} {Q : Nat → Value → re_H → Prop} {xs0 : Int32}
    (hz : xs0 = 0 ∨ xs0 = 1) (K : Q 1 (.int xs0) h) : wp SC 586 d s 573 [] [.int xs0] h Q := by
  exact wp_retz ⟨rfl, rfl⟩ rfl hz K
