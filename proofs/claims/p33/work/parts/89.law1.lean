set_option maxRecDepth 20000 in
theorem L584_0 {SC : List Value} {d s : Nat} {h : re_H} {Q : Nat → Value → re_H → Prop} {a0 : Nat} {a1 : Nat} {a2 : Nat} {x3 : Int32}
    (K : wp SC 577 d 0 0 [(0, .int x3), (1, .int (i32 16))] [] h (wp_ret SC 584 (d + 1) s 6 [(0, .ref a0), (1, .ref a1), (2, .ref a2), (3, .int x3)] [] Q)) : wp SC 584 (d + 1) s 0 [(0, .ref a0), (1, .ref a1), (2, .ref a2), (3, .int x3)] [] h Q := by
  refine wp_run 1 (pc' := 1) (lv' := [(0, .ref a0), (1, .ref a1), (2, .ref a2), (3, .int x3)]) (st' := [.int x3]) rfl ?_
  refine wp_bi (x := (i32 16)) ⟨rfl, rfl⟩ (by decide) ?_
  have eA : lv_args 0 ([.int (i32 16), .int x3].reverse) = [(0, .int x3), (1, .int (i32 16))] := by simp [lv_args, vc_i, vc_l, vc_r, vc_n, vc_a]
  refine wp_callS (ar := [.int (i32 16), .int x3]) (rest := []) (s1 := 0) (s2 := s) (d' := d) ⟨rfl, rfl⟩ rfl (Or.inl rfl) rfl (by simp [re_cat, vc_i, vc_l, vc_r, vc_n, vc_a]) (by rw [show re_cat ([.int (i32 16), .int x3].reverse) = 2 from by simp [re_cat, vc_i, vc_l, vc_r, vc_n, vc_a]]; decide) (by decide) rfl rfl (Nat.le_of_eq (Nat.zero_add s)) ?_
  rw [eA]
  exact wp_mono K (fun k v h' z => wp_ret_weak (re_sb_at rfl (re_sb_at rfl (re_sb_at rfl (re_sb_at rfl (re_sb_nil _))))) z)
set_option maxRecDepth 20000 in
theorem L584_6 {SC : List Value} {d s : Nat} {h : re_H} {Q : Nat → Value → re_H → Prop} {a0 : Nat} {a1 : Nat} {a2 : Nat} {x3 : Int32} {xs0 : Int32}
    (K1 : ¬ xs0 < (i32 8) → wp SC 584 d s 141 [(0, .ref a0), (1, .ref a1), (2, .ref a2), (3, .int x3)] [] h Q) (K2 : xs0 < (i32 8) → wp SC 584 d s 15 [(0, .ref a0), (1, .ref a1), (2, .ref a2), (3, .int x3), (4, .int xs0)] [] h Q) : wp SC 584 d s 6 [(0, .ref a0), (1, .ref a1), (2, .ref a2), (3, .int x3)] [.int xs0] h Q := by
  refine wp_run 2 (pc' := 10) (lv' := [(4, .int xs0), (0, .ref a0), (1, .ref a1), (2, .ref a2), (3, .int x3)]) (st' := [.int xs0]) rfl ?_
  refine wp_bi (x := (i32 8)) ⟨rfl, rfl⟩ (by decide) ?_
  exact wp_cmp ⟨rfl, rfl⟩ rfl (fun hc => wp_weak (re_sb_at rfl (re_sb_at rfl (re_sb_at rfl (re_sb_at rfl (re_sb_nil _))))) (K1 (ic1_ge hc))) (fun hc => wp_weak (re_sb_at rfl (re_sb_at rfl (re_sb_at rfl (re_sb_at rfl (re_sb_at rfl (re_sb_nil _)))))) (K2 (ic0_ge hc)))
set_option maxRecDepth 20000 in
theorem L584_15 {SC : List Value} {d s : Nat} {h : re_H} {Q : Nat → Value → re_H → Prop} {a0 : Nat} {a1 : Nat} {a2 : Nat} {x3 : Int32} {x4 : Int32}
    (K1 : ¬ x4 < (i32 4) → wp SC 584 d s 41 [(0, .ref a0), (1, .ref a1), (2, .ref a2), (3, .int x3), (4, .int x4)] [] h Q) (K2 : x4 < (i32 4) → wp SC 584 d s 21 [(0, .ref a0), (1, .ref a1), (2, .ref a2), (3, .int x3)] [] h Q) : wp SC 584 d s 15 [(0, .ref a0), (1, .ref a1), (2, .ref a2), (3, .int x3), (4, .int x4)] [] h Q := by
  refine wp_run 2 (pc' := 18) (lv' := [(0, .ref a0), (1, .ref a1), (2, .ref a2), (3, .int x3), (4, .int x4)]) (st' := [.int (i32 4), .int x4]) rfl ?_
  exact wp_cmp ⟨rfl, rfl⟩ rfl (fun hc => wp_weak (re_sb_at rfl (re_sb_at rfl (re_sb_at rfl (re_sb_at rfl (re_sb_at rfl (re_sb_nil _)))))) (K1 (ic1_ge hc))) (fun hc => wp_weak (re_sb_at rfl (re_sb_at rfl (re_sb_at rfl (re_sb_at rfl (re_sb_nil _))))) (K2 (ic0_ge hc)))
set_option maxRecDepth 20000 in
theorem L584_21 {SC : List Value} {d s : Nat} {h : re_H} {Q : Nat → Value → re_H → Prop} {a0 : Nat} {a1 : Nat} {a2 : Nat} {x3 : Int32}
    (K : wp SC 577 d 0 0 [(0, .int (x3 >>> ((i32 4) &&& 31))), (1, .int (i32 9))] [] h (wp_ret SC 584 (d + 1) s 32 [(2, .ref a2)] [.int (i32 0), .ref a1, .ref a0] Q)) : wp SC 584 (d + 1) s 21 [(0, .ref a0), (1, .ref a1), (2, .ref a2), (3, .int x3)] [] h Q := by
  refine wp_run 6 (pc' := 27) (lv' := [(0, .ref a0), (1, .ref a1), (2, .ref a2), (3, .int x3)]) (st' := [.int (x3 >>> ((i32 4) &&& 31)), .int (i32 0), .ref a1, .ref a0]) rfl ?_
  refine wp_bi (x := (i32 9)) ⟨rfl, rfl⟩ (by decide) ?_
  have eA : lv_args 0 ([.int (i32 9), .int (x3 >>> ((i32 4) &&& 31))].reverse) = [(0, .int (x3 >>> ((i32 4) &&& 31))), (1, .int (i32 9))] := by simp [lv_args, vc_i, vc_l, vc_r, vc_n, vc_a]
  refine wp_callS (ar := [.int (i32 9), .int (x3 >>> ((i32 4) &&& 31))]) (rest := [.int (i32 0), .ref a1, .ref a0]) (s1 := 0) (s2 := s) (d' := d) ⟨rfl, rfl⟩ rfl (Or.inl rfl) rfl (by simp [re_cat, vc_i, vc_l, vc_r, vc_n, vc_a]) (by rw [show re_cat ([.int (i32 9), .int (x3 >>> ((i32 4) &&& 31))].reverse) = 2 from by simp [re_cat, vc_i, vc_l, vc_r, vc_n, vc_a]]; decide) (by decide) rfl rfl (Nat.le_of_eq (Nat.zero_add s)) ?_
  rw [eA]
  exact wp_mono K (fun k v h' z => wp_ret_weak (re_sb_at rfl (re_sb_nil _)) z)
set_option maxRecDepth 20000 in
theorem L584_32 {SC : List Value} {d s : Nat} {h : re_H} {Q : Nat → Value → re_H → Prop} {a2 : Nat} {xs0 : Int32} {xs1 : Int32} {as2 : Nat} {as3 : Nat}
    {s1 s2 : Nat} (hs : s1 + s2 ≤ s) (K : wp SC 581 d s1 0 [(0, .ref as3), (1, .ref as2), (2, .int xs1), (3, .int (xs0 - (i32 2))), (4, .int (i32 0))] [] h (wp_ret SC 584 (d + 1) s2 38 [(2, .ref a2)] [] Q)) : wp SC 584 (d + 1) s 32 [(2, .ref a2)] [.int xs0, .int xs1, .ref as2, .ref as3] h Q := by
  refine wp_run 3 (pc' := 35) (lv' := [(2, .ref a2)]) (st' := [.int (i32 0), .int (xs0 - (i32 2)), .int xs1, .ref as2, .ref as3]) rfl ?_
  have eA : lv_args 0 ([.int (i32 0), .int (xs0 - (i32 2)), .int xs1, .ref as2, .ref as3].reverse) = [(0, .ref as3), (1, .ref as2), (2, .int xs1), (3, .int (xs0 - (i32 2))), (4, .int (i32 0))] := by simp [lv_args, vc_i, vc_l, vc_r, vc_n, vc_a]
  refine wp_callS (ar := [.int (i32 0), .int (xs0 - (i32 2)), .int xs1, .ref as2, .ref as3]) (rest := []) (s1 := s1) (s2 := s2) (d' := d) ⟨rfl, rfl⟩ rfl (Or.inl rfl) rfl (by simp [re_cat, vc_i, vc_l, vc_r, vc_n, vc_a]) (by rw [show re_cat ([.int (i32 0), .int (xs0 - (i32 2)), .int xs1, .ref as2, .ref as3].reverse) = 5 from by simp [re_cat, vc_i, vc_l, vc_r, vc_n, vc_a]]; decide) (by decide) rfl rfl hs ?_
  rw [eA]
  exact wp_mono K (fun k v h' z => wp_ret_weak (re_sb_at rfl (re_sb_nil _)) z)
set_option maxRecDepth 20000 in
theorem L584_38 {SC : List Value} {d s : Nat} {h : re_H} {Q : Nat → Value → re_H → Prop} {a2 : Nat} {ls0 : Int64}
    (K : wp SC 584 d s 80 [(2, .ref a2)] [.long ls0] h Q) : wp SC 584 d s 38 [(2, .ref a2)] [.long ls0] h Q := by
  refine wp_run 1 (pc' := 80) (lv' := [(2, .ref a2)]) (st' := [.long ls0]) rfl ?_
  exact wp_weak (re_sb_at rfl (re_sb_nil _)) K
set_option maxRecDepth 20000 in
theorem L584_41 {SC : List Value} {d s : Nat} {h : re_H} {Q : Nat → Value → re_H → Prop} {a0 : Nat} {a1 : Nat} {a2 : Nat} {x3 : Int32} {x4 : Int32}
    (K1 : ¬ x4 < (i32 7) → wp SC 584 d s 66 [(0, .ref a0), (1, .ref a1), (2, .ref a2), (3, .int x3)] [] h Q) (K2 : x4 < (i32 7) → wp SC 584 d s 48 [(0, .ref a0), (1, .ref a1), (2, .ref a2), (3, .int x3)] [] h Q) : wp SC 584 d s 41 [(0, .ref a0), (1, .ref a1), (2, .ref a2), (3, .int x3), (4, .int x4)] [] h Q := by
  refine wp_run 1 (pc' := 43) (lv' := [(0, .ref a0), (1, .ref a1), (2, .ref a2), (3, .int x3), (4, .int x4)]) (st' := [.int x4]) rfl ?_
  refine wp_bi (x := (i32 7)) ⟨rfl, rfl⟩ (by decide) ?_
  exact wp_cmp ⟨rfl, rfl⟩ rfl (fun hc => wp_weak (re_sb_at rfl (re_sb_at rfl (re_sb_at rfl (re_sb_at rfl (re_sb_nil _))))) (K1 (ic1_ge hc))) (fun hc => wp_weak (re_sb_at rfl (re_sb_at rfl (re_sb_at rfl (re_sb_at rfl (re_sb_nil _))))) (K2 (ic0_ge hc)))
set_option maxRecDepth 20000 in
theorem L584_48 {SC : List Value} {d s : Nat} {h : re_H} {Q : Nat → Value → re_H → Prop} {a0 : Nat} {a1 : Nat} {a2 : Nat} {x3 : Int32}
    (K : wp SC 577 d 0 0 [(0, .int (x3 >>> ((i32 4) &&& 31))), (1, .int (i32 6))] [] h (wp_ret SC 584 (d + 1) s 59 [(2, .ref a2)] [.int (i32 1), .ref a1, .ref a0] Q)) : wp SC 584 (d + 1) s 48 [(0, .ref a0), (1, .ref a1), (2, .ref a2), (3, .int x3)] [] h Q := by
  refine wp_run 6 (pc' := 54) (lv' := [(0, .ref a0), (1, .ref a1), (2, .ref a2), (3, .int x3)]) (st' := [.int (x3 >>> ((i32 4) &&& 31)), .int (i32 1), .ref a1, .ref a0]) rfl ?_
  refine wp_bi (x := (i32 6)) ⟨rfl, rfl⟩ (by decide) ?_
  have eA : lv_args 0 ([.int (i32 6), .int (x3 >>> ((i32 4) &&& 31))].reverse) = [(0, .int (x3 >>> ((i32 4) &&& 31))), (1, .int (i32 6))] := by simp [lv_args, vc_i, vc_l, vc_r, vc_n, vc_a]
  refine wp_callS (ar := [.int (i32 6), .int (x3 >>> ((i32 4) &&& 31))]) (rest := [.int (i32 1), .ref a1, .ref a0]) (s1 := 0) (s2 := s) (d' := d) ⟨rfl, rfl⟩ rfl (Or.inl rfl) rfl (by simp [re_cat, vc_i, vc_l, vc_r, vc_n, vc_a]) (by rw [show re_cat ([.int (i32 6), .int (x3 >>> ((i32 4) &&& 31))].reverse) = 2 from by simp [re_cat, vc_i, vc_l, vc_r, vc_n, vc_a]]; decide) (by decide) rfl rfl (Nat.le_of_eq (Nat.zero_add s)) ?_
  rw [eA]
  exact wp_mono K (fun k v h' z => wp_ret_weak (re_sb_at rfl (re_sb_nil _)) z)
set_option maxRecDepth 20000 in
theorem L584_59 {SC : List Value} {d s : Nat} {h : re_H} {Q : Nat → Value → re_H → Prop} {a2 : Nat} {xs0 : Int32} {xs1 : Int32} {as2 : Nat} {as3 : Nat}
    {s1 s2 : Nat} (hs : s1 + s2 ≤ s) (K : wp SC 581 d s1 0 [(0, .ref as3), (1, .ref as2), (2, .int xs1), (3, .int xs0), (4, .int (i32 0))] [] h (wp_ret SC 584 (d + 1) s2 63 [(2, .ref a2)] [] Q)) : wp SC 584 (d + 1) s 59 [(2, .ref a2)] [.int xs0, .int xs1, .ref as2, .ref as3] h Q := by
  refine wp_run 1 (pc' := 60) (lv' := [(2, .ref a2)]) (st' := [.int (i32 0), .int xs0, .int xs1, .ref as2, .ref as3]) rfl ?_
  have eA : lv_args 0 ([.int (i32 0), .int xs0, .int xs1, .ref as2, .ref as3].reverse) = [(0, .ref as3), (1, .ref as2), (2, .int xs1), (3, .int xs0), (4, .int (i32 0))] := by simp [lv_args, vc_i, vc_l, vc_r, vc_n, vc_a]
  refine wp_callS (ar := [.int (i32 0), .int xs0, .int xs1, .ref as2, .ref as3]) (rest := []) (s1 := s1) (s2 := s2) (d' := d) ⟨rfl, rfl⟩ rfl (Or.inl rfl) rfl (by simp [re_cat, vc_i, vc_l, vc_r, vc_n, vc_a]) (by rw [show re_cat ([.int (i32 0), .int xs0, .int xs1, .ref as2, .ref as3].reverse) = 5 from by simp [re_cat, vc_i, vc_l, vc_r, vc_n, vc_a]]; decide) (by decide) rfl rfl hs ?_
  rw [eA]
  exact wp_mono K (fun k v h' z => wp_ret_weak (re_sb_at rfl (re_sb_nil _)) z)
set_option maxRecDepth 20000 in
theorem L584_63 {SC : List Value} {d s : Nat} {h : re_H} {Q : Nat → Value → re_H → Prop} {a2 : Nat} {ls0 : Int64}
    (K : wp SC 584 d s 80 [(2, .ref a2)] [.long ls0] h Q) : wp SC 584 d s 63 [(2, .ref a2)] [.long ls0] h Q := by
  refine wp_run 1 (pc' := 80) (lv' := [(2, .ref a2)]) (st' := [.long ls0]) rfl ?_
  exact wp_weak (re_sb_at rfl (re_sb_nil _)) K
set_option maxRecDepth 20000 in
theorem L584_66 {SC : List Value} {d s : Nat} {h : re_H} {Q : Nat → Value → re_H → Prop} {a0 : Nat} {a1 : Nat} {a2 : Nat} {x3 : Int32}
    (K : wp SC 577 d 0 0 [(0, .int (x3 >>> ((i32 4) &&& 31))), (1, .int (i32 4))] [] h (wp_ret SC 584 (d + 1) s 76 [(2, .ref a2)] [.int (i32 2), .ref a1, .ref a0] Q)) : wp SC 584 (d + 1) s 66 [(0, .ref a0), (1, .ref a1), (2, .ref a2), (3, .int x3)] [] h Q := by
  refine wp_run 7 (pc' := 73) (lv' := [(0, .ref a0), (1, .ref a1), (2, .ref a2), (3, .int x3)]) (st' := [.int (i32 4), .int (x3 >>> ((i32 4) &&& 31)), .int (i32 2), .ref a1, .ref a0]) rfl ?_
  have eA : lv_args 0 ([.int (i32 4), .int (x3 >>> ((i32 4) &&& 31))].reverse) = [(0, .int (x3 >>> ((i32 4) &&& 31))), (1, .int (i32 4))] := by simp [lv_args, vc_i, vc_l, vc_r, vc_n, vc_a]
  refine wp_callS (ar := [.int (i32 4), .int (x3 >>> ((i32 4) &&& 31))]) (rest := [.int (i32 2), .ref a1, .ref a0]) (s1 := 0) (s2 := s) (d' := d) ⟨rfl, rfl⟩ rfl (Or.inl rfl) rfl (by simp [re_cat, vc_i, vc_l, vc_r, vc_n, vc_a]) (by rw [show re_cat ([.int (i32 4), .int (x3 >>> ((i32 4) &&& 31))].reverse) = 2 from by simp [re_cat, vc_i, vc_l, vc_r, vc_n, vc_a]]; decide) (by decide) rfl rfl (Nat.le_of_eq (Nat.zero_add s)) ?_
  rw [eA]
  exact wp_mono K (fun k v h' z => wp_ret_weak (re_sb_at rfl (re_sb_nil _)) z)
set_option maxRecDepth 20000 in
theorem L584_76 {SC : List Value} {d s : Nat} {h : re_H} {Q : Nat → Value → re_H → Prop} {a2 : Nat} {xs0 : Int32} {xs1 : Int32} {as2 : Nat} {as3 : Nat}
    {s1 s2 : Nat} (hs : s1 + s2 ≤ s) (K : wp SC 581 d s1 0 [(0, .ref as3), (1, .ref as2), (2, .int xs1), (3, .int xs0), (4, .int (i32 0))] [] h (wp_ret SC 584 (d + 1) s2 80 [(2, .ref a2)] [] Q)) : wp SC 584 (d + 1) s 76 [(2, .ref a2)] [.int xs0, .int xs1, .ref as2, .ref as3] h Q := by
  refine wp_run 1 (pc' := 77) (lv' := [(2, .ref a2)]) (st' := [.int (i32 0), .int xs0, .int xs1, .ref as2, .ref as3]) rfl ?_
  have eA : lv_args 0 ([.int (i32 0), .int xs0, .int xs1, .ref as2, .ref as3].reverse) = [(0, .ref as3), (1, .ref as2), (2, .int xs1), (3, .int xs0), (4, .int (i32 0))] := by simp [lv_args, vc_i, vc_l, vc_r, vc_n, vc_a]
  refine wp_callS (ar := [.int (i32 0), .int xs0, .int xs1, .ref as2, .ref as3]) (rest := []) (s1 := s1) (s2 := s2) (d' := d) ⟨rfl, rfl⟩ rfl (Or.inl rfl) rfl (by simp [re_cat, vc_i, vc_l, vc_r, vc_n, vc_a]) (by rw [show re_cat ([.int (i32 0), .int xs0, .int xs1, .ref as2, .ref as3].reverse) = 5 from by simp [re_cat, vc_i, vc_l, vc_r, vc_n, vc_a]]; decide) (by decide) rfl rfl hs ?_
  rw [eA]
  exact wp_mono K (fun k v h' z => wp_ret_weak (re_sb_at rfl (re_sb_nil _)) z)
set_option maxRecDepth 20000 in
theorem L584_80 {SC : List Value} {d s : Nat} {h : re_H} {Q : Nat → Value → re_H → Prop} {a2 : Nat} {ls0 : Int64}
    {xe1 : Int32} (e2 : nb_ar h a2 100 (i32 0) (.int xe1)) (K1 : ¬ (0) < ls0 → wp SC 584 d s 97 [(2, .ref a2), (5, .long ls0)] [.int xe1, .int (i32 0), .ref a2] h Q) (K2 : (0) < ls0 → wp SC 584 d s 93 [(2, .ref a2), (5, .long ls0)] [.int xe1, .int (i32 0), .ref a2] h Q) : wp SC 584 d s 80 [(2, .ref a2)] [.long ls0] h Q := by
  refine wp_run 4 (pc' := 85) (lv' := [(5, .long ls0), (2, .ref a2)]) (st' := [.int (i32 0), .ref a2, .int (i32 0), .ref a2]) rfl ?_
  obtain ⟨w2, i2, e2a, e2x, e2i, e2v⟩ := e2
  refine wp_ial ⟨rfl, rfl⟩ e2a rfl e2x e2i e2v ?_
  refine wp_run 3 (pc' := 90) (lv' := [(5, .long ls0), (2, .ref a2)]) (st' := [.int (lg_cmp ls0 (0)), .int xe1, .int (i32 0), .ref a2]) rfl ?_
  exact wp_if ⟨rfl, rfl⟩ rfl (fun hc => wp_weak (re_sb_at rfl (re_sb_at rfl (re_sb_nil _))) (K1 (lc1_le hc))) (fun hc => wp_weak (re_sb_at rfl (re_sb_at rfl (re_sb_nil _))) (K2 (lc0_le hc)))
set_option maxRecDepth 20000 in
theorem L584_93 {SC : List Value} {d s : Nat} {h : re_H} {Q : Nat → Value → re_H → Prop} {a2 : Nat} {l5 : Int64} {xs0 : Int32} {xs1 : Int32} {as2 : Nat}
    (K : wp SC 584 d s 98 [(2, .ref a2), (5, .long l5)] [.int (i32 1), .int xs0, .int xs1, .ref as2] h Q) : wp SC 584 d s 93 [(2, .ref a2), (5, .long l5)] [.int xs0, .int xs1, .ref as2] h Q := by
  refine wp_run 2 (pc' := 98) (lv' := [(2, .ref a2), (5, .long l5)]) (st' := [.int (i32 1), .int xs0, .int xs1, .ref as2]) rfl ?_
  exact wp_weak (re_sb_at rfl (re_sb_at rfl (re_sb_nil _))) K
set_option maxRecDepth 20000 in
theorem L584_97 {SC : List Value} {d s : Nat} {h : re_H} {Q : Nat → Value → re_H → Prop} {a2 : Nat} {l5 : Int64} {xs0 : Int32} {xs1 : Int32} {as2 : Nat}
    (K : wp SC 584 d s 98 [(2, .ref a2), (5, .long l5)] [.int (i32 0), .int xs0, .int xs1, .ref as2] h Q) : wp SC 584 d s 97 [(2, .ref a2), (5, .long l5)] [.int xs0, .int xs1, .ref as2] h Q := by
  refine wp_run 1 (pc' := 98) (lv' := [(2, .ref a2), (5, .long l5)]) (st' := [.int (i32 0), .int xs0, .int xs1, .ref as2]) rfl ?_
  exact wp_weak (re_sb_at rfl (re_sb_at rfl (re_sb_nil _))) K
set_option maxRecDepth 20000 in
theorem L584_98 {SC : List Value} {d s : Nat} {h : re_H} {Q : Nat → Value → re_H → Prop} {a2 : Nat} {l5 : Int64} {xs0 : Int32} {xs1 : Int32} {xs2 : Int32} {as3 : Nat}
    {w : List Value} {i : Nat} (e : re_hg h as3 = some (100, w)) (hx : xs2 = i32 i) (hi : i < 2147483648) (hl : i < w.length) (K : wp SC 584 d s 100 [(2, .ref a2), (5, .long l5)] [] (re_hw h as3 (100, w.set i (.int (xs1 + xs0)))) Q) : wp SC 584 d s 98 [(2, .ref a2), (5, .long l5)] [.int xs0, .int xs1, .int xs2, .ref as3] h Q := by
  refine wp_run 1 (pc' := 99) (lv' := [(2, .ref a2), (5, .long l5)]) (st' := [.int (xs1 + xs0), .int xs2, .ref as3]) rfl ?_
  exact wp_ias ⟨rfl, rfl⟩ e rfl hx hi hl (wp_weak (re_sb_at rfl (re_sb_at rfl (re_sb_nil _))) K)
set_option maxRecDepth 20000 in
theorem L584_100 {SC : List Value} {d s : Nat} {h : re_H} {Q : Nat → Value → re_H → Prop} {a2 : Nat} {l5 : Int64}
    (K1 : ¬ l5 = (-2000000003) → wp SC 584 d s 125 [(2, .ref a2), (5, .long l5)] [] h Q) (K2 : l5 = (-2000000003) → wp SC 584 d s 109 [(2, .ref a2)] [] h Q) : wp SC 584 d s 100 [(2, .ref a2), (5, .long l5)] [] h Q := by
  refine wp_run 1 (pc' := 102) (lv' := [(2, .ref a2), (5, .long l5)]) (st' := [.long l5]) rfl ?_
  refine wp_cst (pc' := 105) (v := .long (-2000000003)) ⟨rfl, rfl⟩ rfl rfl rfl rfl rfl ?_
  refine wp_run 1 (pc' := 106) (lv' := [(2, .ref a2), (5, .long l5)]) (st' := [.int (lg_cmp l5 (-2000000003))]) rfl ?_
  exact wp_if ⟨rfl, rfl⟩ rfl (fun hc => wp_weak (re_sb_at rfl (re_sb_at rfl (re_sb_nil _))) (K1 (lc1_ne hc))) (fun hc => wp_weak (re_sb_at rfl (re_sb_nil _)) (K2 (lc0_ne hc)))
set_option maxRecDepth 20000 in
theorem L584_109 {SC : List Value} {d s : Nat} {h : re_H} {Q : Nat → Value → re_H → Prop} {a2 : Nat}
    {xe1 : Int32} (e2 : nb_ar h a2 100 (i32 0) (.int xe1)) (K1 : ¬ xe1 = (i32 20) → wp SC 584 d s 121 [] [] h Q) (K2 : xe1 = (i32 20) → wp SC 584 d s 117 [] [] h Q) : wp SC 584 d s 109 [(2, .ref a2)] [] h Q := by
  refine wp_run 2 (pc' := 111) (lv' := [(2, .ref a2)]) (st' := [.int (i32 0), .ref a2]) rfl ?_
  obtain ⟨w2, i2, e2a, e2x, e2i, e2v⟩ := e2
  refine wp_ial ⟨rfl, rfl⟩ e2a rfl e2x e2i e2v ?_
  refine wp_bi (x := (i32 20)) ⟨rfl, rfl⟩ (by decide) ?_
  exact wp_cmp ⟨rfl, rfl⟩ rfl (fun hc => wp_weak (re_sb_nil _) (K1 (ic1_ne hc))) (fun hc => wp_weak (re_sb_nil _) (K2 (ic0_ne hc)))
set_option maxRecDepth 20000 in
theorem L584_117 {SC : List Value} {d s : Nat} {h : re_H} {Q : Nat → Value → re_H → Prop} 
    (K : wp SC 584 d s 140 [] [.int (i32 1)] h Q) : wp SC 584 d s 117 [] [] h Q := by
  refine wp_run 2 (pc' := 140) (lv' := []) (st' := [.int (i32 1)]) rfl ?_
  exact wp_weak (re_sb_nil _) K
set_option maxRecDepth 20000 in
theorem L584_121 {SC : List Value} {d s : Nat} {h : re_H} {Q : Nat → Value → re_H → Prop} 
    (K : wp SC 584 d s 140 [] [.int (i32 0)] h Q) : wp SC 584 d s 121 [] [] h Q := by
  refine wp_run 2 (pc' := 140) (lv' := []) (st' := [.int (i32 0)]) rfl ?_
  exact wp_weak (re_sb_nil _) K
set_option maxRecDepth 20000 in
theorem L584_125 {SC : List Value} {d s : Nat} {h : re_H} {Q : Nat → Value → re_H → Prop} {a2 : Nat} {l5 : Int64}
    {xe1 : Int32} (e2 : nb_ar h a2 100 (i32 0) (.int xe1)) (K1 : ¬ l5 = xe1.toInt64 → wp SC 584 d s 139 [] [] h Q) (K2 : l5 = xe1.toInt64 → wp SC 584 d s 135 [] [] h Q) : wp SC 584 d s 125 [(2, .ref a2), (5, .long l5)] [] h Q := by
  refine wp_run 3 (pc' := 129) (lv' := [(2, .ref a2), (5, .long l5)]) (st' := [.int (i32 0), .ref a2, .long l5]) rfl ?_
  obtain ⟨w2, i2, e2a, e2x, e2i, e2v⟩ := e2
  refine wp_ial ⟨rfl, rfl⟩ e2a rfl e2x e2i e2v ?_
  refine wp_run 2 (pc' := 132) (lv' := [(2, .ref a2), (5, .long l5)]) (st' := [.int (lg_cmp l5 xe1.toInt64)]) rfl ?_
  exact wp_if ⟨rfl, rfl⟩ rfl (fun hc => wp_weak (re_sb_nil _) (K1 (lc1_ne hc))) (fun hc => wp_weak (re_sb_nil _) (K2 (lc0_ne hc)))
set_option maxRecDepth 20000 in
theorem L584_135 {SC : List Value} {d s : Nat} {h : re_H} {Q : Nat → Value → re_H → Prop} 
    (K : wp SC 584 d s 140 [] [.int (i32 1)] h Q) : wp SC 584 d s 135 [] [] h Q := by
  refine wp_run 2 (pc' := 140) (lv' := []) (st' := [.int (i32 1)]) rfl ?_
  exact wp_weak (re_sb_nil _) K
set_option maxRecDepth 20000 in
theorem L584_139 {SC : List Value} {d s : Nat} {h : re_H} {Q : Nat → Value → re_H → Prop} 
    (K : wp SC 584 d s 140 [] [.int (i32 0)] h Q) : wp SC 584 d s 139 [] [] h Q := by
  refine wp_run 1 (pc' := 140) (lv' := []) (st' := [.int (i32 0)]) rfl ?_
  exact wp_weak (re_sb_nil _) K
set_option maxRecDepth 20000 in
theorem L584_140 {SC : List Value} {d s : Nat} {h : re_H} {Q : Nat → Value → re_H → Prop} {xs0 : Int32}
    (hz : xs0 = 0 ∨ xs0 = 1) (K : Q 1 (.int xs0) h) : wp SC 584 d s 140 [] [.int xs0] h Q := by
  exact wp_retz ⟨rfl, rfl⟩ rfl hz K
set_option maxRecDepth 20000 in
theorem L584_141 {SC : List Value} {d s : Nat} {h : re_H} {Q : Nat → Value → re_H → Prop} {a0 : Nat} {a1 : Nat} {a2 : Nat} {x3 : Int32}
    (K : wp SC 577 d 0 0 [(0, .int (x3 >>> ((i32 4) &&& 31))), (1, .int (i32 6))] [] h (wp_ret SC 584 (d + 1) s 150 [(0, .ref a0), (1, .ref a1), (2, .ref a2), (3, .int x3)] [.int (i32 3)] Q)) : wp SC 584 (d + 1) s 141 [(0, .ref a0), (1, .ref a1), (2, .ref a2), (3, .int x3)] [] h Q := by
  refine wp_run 4 (pc' := 145) (lv' := [(0, .ref a0), (1, .ref a1), (2, .ref a2), (3, .int x3)]) (st' := [.int (x3 >>> ((i32 4) &&& 31)), .int (i32 3)]) rfl ?_
  refine wp_bi (x := (i32 6)) ⟨rfl, rfl⟩ (by decide) ?_
  have eA : lv_args 0 ([.int (i32 6), .int (x3 >>> ((i32 4) &&& 31))].reverse) = [(0, .int (x3 >>> ((i32 4) &&& 31))), (1, .int (i32 6))] := by simp [lv_args, vc_i, vc_l, vc_r, vc_n, vc_a]
  refine wp_callS (ar := [.int (i32 6), .int (x3 >>> ((i32 4) &&& 31))]) (rest := [.int (i32 3)]) (s1 := 0) (s2 := s) (d' := d) ⟨rfl, rfl⟩ rfl (Or.inl rfl) rfl (by simp [re_cat, vc_i, vc_l, vc_r, vc_n, vc_a]) (by rw [show re_cat ([.int (i32 6), .int (x3 >>> ((i32 4) &&& 31))].reverse) = 2 from by simp [re_cat, vc_i, vc_l, vc_r, vc_n, vc_a]]; decide) (by decide) rfl rfl (Nat.le_of_eq (Nat.zero_add s)) ?_
  rw [eA]
  exact wp_mono K (fun k v h' z => wp_ret_weak (re_sb_at rfl (re_sb_at rfl (re_sb_at rfl (re_sb_at rfl (re_sb_nil _))))) z)
set_option maxRecDepth 20000 in
theorem L584_150 {SC : List Value} {d s : Nat} {h : re_H} {Q : Nat → Value → re_H → Prop} {a0 : Nat} {a1 : Nat} {a2 : Nat} {x3 : Int32} {xs0 : Int32} {xs1 : Int32}
    (K1 : ¬ (xs1 + xs0) = (i32 5) → wp SC 584 d s 163 [(0, .ref a0), (1, .ref a1), (2, .ref a2), (3, .int x3), (5, .int (xs1 + xs0))] [] h Q) (K2 : (xs1 + xs0) = (i32 5) → wp SC 584 d s 159 [(0, .ref a0), (1, .ref a1), (2, .ref a2), (3, .int x3), (5, .int (xs1 + xs0))] [] h Q) : wp SC 584 d s 150 [(0, .ref a0), (1, .ref a1), (2, .ref a2), (3, .int x3)] [.int xs0, .int xs1] h Q := by
  refine wp_run 4 (pc' := 156) (lv' := [(5, .int (xs1 + xs0)), (0, .ref a0), (1, .ref a1), (2, .ref a2), (3, .int x3)]) (st' := [.int (i32 5), .int (xs1 + xs0)]) rfl ?_
  exact wp_cmp ⟨rfl, rfl⟩ rfl (fun hc => wp_weak (re_sb_at rfl (re_sb_at rfl (re_sb_at rfl (re_sb_at rfl (re_sb_at rfl (re_sb_nil _)))))) (K1 (ic1_ne hc))) (fun hc => wp_weak (re_sb_at rfl (re_sb_at rfl (re_sb_at rfl (re_sb_at rfl (re_sb_at rfl (re_sb_nil _)))))) (K2 (ic0_ne hc)))
set_option maxRecDepth 20000 in
theorem L584_159 {SC : List Value} {d s : Nat} {h : re_H} {Q : Nat → Value → re_H → Prop} {a0 : Nat} {a1 : Nat} {a2 : Nat} {x3 : Int32} {x5 : Int32}
    (K : wp SC 584 d s 181 [(0, .ref a0), (1, .ref a1), (2, .ref a2), (3, .int x3), (5, .int x5)] [.int (i32 3)] h Q) : wp SC 584 d s 159 [(0, .ref a0), (1, .ref a1), (2, .ref a2), (3, .int x3), (5, .int x5)] [] h Q := by
  refine wp_run 2 (pc' := 181) (lv' := [(0, .ref a0), (1, .ref a1), (2, .ref a2), (3, .int x3), (5, .int x5)]) (st' := [.int (i32 3)]) rfl ?_
  exact wp_weak (re_sb_at rfl (re_sb_at rfl (re_sb_at rfl (re_sb_at rfl (re_sb_at rfl (re_sb_nil _)))))) K
set_option maxRecDepth 20000 in
theorem L584_163 {SC : List Value} {d s : Nat} {h : re_H} {Q : Nat → Value → re_H → Prop} {a0 : Nat} {a1 : Nat} {a2 : Nat} {x3 : Int32} {x5 : Int32}
    (K1 : x5 = (i32 3) → wp SC 584 d s 176 [(0, .ref a0), (1, .ref a1), (2, .ref a2), (3, .int x3), (5, .int x5)] [] h Q) (K2 : ¬ x5 = (i32 3) → wp SC 584 d s 169 [(0, .ref a0), (1, .ref a1), (2, .ref a2), (3, .int x3), (5, .int x5)] [] h Q) : wp SC 584 d s 163 [(0, .ref a0), (1, .ref a1), (2, .ref a2), (3, .int x3), (5, .int x5)] [] h Q := by
  refine wp_run 2 (pc' := 166) (lv' := [(0, .ref a0), (1, .ref a1), (2, .ref a2), (3, .int x3), (5, .int x5)]) (st' := [.int (i32 3), .int x5]) rfl ?_
  exact wp_cmp ⟨rfl, rfl⟩ rfl (fun hc => wp_weak (re_sb_at rfl (re_sb_at rfl (re_sb_at rfl (re_sb_at rfl (re_sb_at rfl (re_sb_nil _)))))) (K1 (ic1_eq hc))) (fun hc => wp_weak (re_sb_at rfl (re_sb_at rfl (re_sb_at rfl (re_sb_at rfl (re_sb_at rfl (re_sb_nil _)))))) (K2 (ic0_eq hc)))
set_option maxRecDepth 20000 in
theorem L584_169 {SC : List Value} {d s : Nat} {h : re_H} {Q : Nat → Value → re_H → Prop} {a0 : Nat} {a1 : Nat} {a2 : Nat} {x3 : Int32} {x5 : Int32}
    (K1 : ¬ x5 = (i32 7) → wp SC 584 d s 180 [(0, .ref a0), (1, .ref a1), (2, .ref a2), (3, .int x3), (5, .int x5)] [] h Q) (K2 : x5 = (i32 7) → wp SC 584 d s 176 [(0, .ref a0), (1, .ref a1), (2, .ref a2), (3, .int x3), (5, .int x5)] [] h Q) : wp SC 584 d s 169 [(0, .ref a0), (1, .ref a1), (2, .ref a2), (3, .int x3), (5, .int x5)] [] h Q := by
  refine wp_run 1 (pc' := 171) (lv' := [(0, .ref a0), (1, .ref a1), (2, .ref a2), (3, .int x3), (5, .int x5)]) (st' := [.int x5]) rfl ?_
  refine wp_bi (x := (i32 7)) ⟨rfl, rfl⟩ (by decide) ?_
  exact wp_cmp ⟨rfl, rfl⟩ rfl (fun hc => wp_weak (re_sb_at rfl (re_sb_at rfl (re_sb_at rfl (re_sb_at rfl (re_sb_at rfl (re_sb_nil _)))))) (K1 (ic1_ne hc))) (fun hc => wp_weak (re_sb_at rfl (re_sb_at rfl (re_sb_at rfl (re_sb_at rfl (re_sb_at rfl (re_sb_nil _)))))) (K2 (ic0_ne hc)))
set_option maxRecDepth 20000 in
theorem L584_176 {SC : List Value} {d s : Nat} {h : re_H} {Q : Nat → Value → re_H → Prop} {a0 : Nat} {a1 : Nat} {a2 : Nat} {x3 : Int32} {x5 : Int32}
    (K : wp SC 584 d s 181 [(0, .ref a0), (1, .ref a1), (2, .ref a2), (3, .int x3), (5, .int x5)] [.int (i32 1)] h Q) : wp SC 584 d s 176 [(0, .ref a0), (1, .ref a1), (2, .ref a2), (3, .int x3), (5, .int x5)] [] h Q := by
  refine wp_run 2 (pc' := 181) (lv' := [(0, .ref a0), (1, .ref a1), (2, .ref a2), (3, .int x3), (5, .int x5)]) (st' := [.int (i32 1)]) rfl ?_
  exact wp_weak (re_sb_at rfl (re_sb_at rfl (re_sb_at rfl (re_sb_at rfl (re_sb_at rfl (re_sb_nil _)))))) K
set_option maxRecDepth 20000 in
theorem L584_180 {SC : List Value} {d s : Nat} {h : re_H} {Q : Nat → Value → re_H → Prop} {a0 : Nat} {a1 : Nat} {a2 : Nat} {x3 : Int32} {x5 : Int32}
    (K : wp SC 584 d s 181 [(0, .ref a0), (1, .ref a1), (2, .ref a2), (3, .int x3), (5, .int x5)] [.int (i32 2)] h Q) : wp SC 584 d s 180 [(0, .ref a0), (1, .ref a1), (2, .ref a2), (3, .int x3), (5, .int x5)] [] h Q := by
  refine wp_run 1 (pc' := 181) (lv' := [(0, .ref a0), (1, .ref a1), (2, .ref a2), (3, .int x3), (5, .int x5)]) (st' := [.int (i32 2)]) rfl ?_
  exact wp_weak (re_sb_at rfl (re_sb_at rfl (re_sb_at rfl (re_sb_at rfl (re_sb_at rfl (re_sb_nil _)))))) K
set_option maxRecDepth 20000 in
theorem L584_181 {SC : List Value} {d s : Nat} {h : re_H} {Q : Nat → Value → re_H → Prop} {a0 : Nat} {a1 : Nat} {a2 : Nat} {x3 : Int32} {x5 : Int32} {xs0 : Int32}
    (K1 : ¬ x5 = (i32 4) → wp SC 584 d s 204 [(2, .ref a2), (3, .int x3), (6, .int xs0)] [.int x5, .ref a1, .ref a0] h Q) (K2 : x5 = (i32 4) → wp SC 584 d s 193 [(2, .ref a2), (3, .int x3), (6, .int xs0)] [.int x5, .ref a1, .ref a0] h Q) : wp SC 584 d s 181 [(0, .ref a0), (1, .ref a1), (2, .ref a2), (3, .int x3), (5, .int x5)] [.int xs0] h Q := by
  refine wp_run 6 (pc' := 190) (lv' := [(6, .int xs0), (0, .ref a0), (1, .ref a1), (2, .ref a2), (3, .int x3), (5, .int x5)]) (st' := [.int (i32 4), .int x5, .int x5, .ref a1, .ref a0]) rfl ?_
  exact wp_cmp ⟨rfl, rfl⟩ rfl (fun hc => wp_weak (re_sb_at rfl (re_sb_at rfl (re_sb_at rfl (re_sb_nil _)))) (K1 (ic1_ne hc))) (fun hc => wp_weak (re_sb_at rfl (re_sb_at rfl (re_sb_at rfl (re_sb_nil _)))) (K2 (ic0_ne hc)))
set_option maxRecDepth 20000 in
theorem L584_193 {SC : List Value} {d s : Nat} {h : re_H} {Q : Nat → Value → re_H → Prop} {a2 : Nat} {x3 : Int32} {x6 : Int32} {xs0 : Int32} {as1 : Nat} {as2 : Nat}
    (K : wp SC 577 d 0 0 [(0, .int (x3 >>> ((i32 7) &&& 31))), (1, .int (i32 4))] [] h (wp_ret SC 584 (d + 1) s 201 [(2, .ref a2), (6, .int x6)] [.int xs0, .ref as1, .ref as2] Q)) : wp SC 584 (d + 1) s 193 [(2, .ref a2), (3, .int x3), (6, .int x6)] [.int xs0, .ref as1, .ref as2] h Q := by
  refine wp_run 1 (pc' := 194) (lv' := [(2, .ref a2), (3, .int x3), (6, .int x6)]) (st' := [.int x3, .int xs0, .ref as1, .ref as2]) rfl ?_
  refine wp_bi (x := (i32 7)) ⟨rfl, rfl⟩ (by decide) ?_
  refine wp_run 2 (pc' := 198) (lv' := [(2, .ref a2), (3, .int x3), (6, .int x6)]) (st' := [.int (i32 4), .int (x3 >>> ((i32 7) &&& 31)), .int xs0, .ref as1, .ref as2]) rfl ?_
  have eA : lv_args 0 ([.int (i32 4), .int (x3 >>> ((i32 7) &&& 31))].reverse) = [(0, .int (x3 >>> ((i32 7) &&& 31))), (1, .int (i32 4))] := by simp [lv_args, vc_i, vc_l, vc_r, vc_n, vc_a]
  refine wp_callS (ar := [.int (i32 4), .int (x3 >>> ((i32 7) &&& 31))]) (rest := [.int xs0, .ref as1, .ref as2]) (s1 := 0) (s2 := s) (d' := d) ⟨rfl, rfl⟩ rfl (Or.inl rfl) rfl (by simp [re_cat, vc_i, vc_l, vc_r, vc_n, vc_a]) (by rw [show re_cat ([.int (i32 4), .int (x3 >>> ((i32 7) &&& 31))].reverse) = 2 from by simp [re_cat, vc_i, vc_l, vc_r, vc_n, vc_a]]; decide) (by decide) rfl rfl (Nat.le_of_eq (Nat.zero_add s)) ?_
  rw [eA]
  exact wp_mono K (fun k v h' z => wp_ret_weak (re_sb_at rfl (re_sb_at rfl (re_sb_nil _))) z)
set_option maxRecDepth 20000 in
theorem L584_201 {SC : List Value} {d s : Nat} {h : re_H} {Q : Nat → Value → re_H → Prop} {a2 : Nat} {x6 : Int32} {xs0 : Int32} {xs1 : Int32} {as2 : Nat} {as3 : Nat}
    (K : wp SC 584 d s 213 [(2, .ref a2), (6, .int x6)] [.int xs0, .int xs1, .ref as2, .ref as3] h Q) : wp SC 584 d s 201 [(2, .ref a2), (6, .int x6)] [.int xs0, .int xs1, .ref as2, .ref as3] h Q := by
  refine wp_run 1 (pc' := 213) (lv' := [(2, .ref a2), (6, .int x6)]) (st' := [.int xs0, .int xs1, .ref as2, .ref as3]) rfl ?_
  exact wp_weak (re_sb_at rfl (re_sb_at rfl (re_sb_nil _))) K
set_option maxRecDepth 20000 in
theorem L584_204 {SC : List Value} {d s : Nat} {h : re_H} {Q : Nat → Value → re_H → Prop} {a2 : Nat} {x3 : Int32} {x6 : Int32} {xs0 : Int32} {as1 : Nat} {as2 : Nat}
    (K : wp SC 577 d 0 0 [(0, .int (x3 >>> ((i32 7) &&& 31))), (1, .int (i32 6))] [] h (wp_ret SC 584 (d + 1) s 213 [(2, .ref a2), (6, .int x6)] [.int xs0, .ref as1, .ref as2] Q)) : wp SC 584 (d + 1) s 204 [(2, .ref a2), (3, .int x3), (6, .int x6)] [.int xs0, .ref as1, .ref as2] h Q := by
  refine wp_run 1 (pc' := 205) (lv' := [(2, .ref a2), (3, .int x3), (6, .int x6)]) (st' := [.int x3, .int xs0, .ref as1, .ref as2]) rfl ?_
  refine wp_bi (x := (i32 7)) ⟨rfl, rfl⟩ (by decide) ?_
  refine wp_run 1 (pc' := 208) (lv' := [(2, .ref a2), (3, .int x3), (6, .int x6)]) (st' := [.int (x3 >>> ((i32 7) &&& 31)), .int xs0, .ref as1, .ref as2]) rfl ?_
  refine wp_bi (x := (i32 6)) ⟨rfl, rfl⟩ (by decide) ?_
  have eA : lv_args 0 ([.int (i32 6), .int (x3 >>> ((i32 7) &&& 31))].reverse) = [(0, .int (x3 >>> ((i32 7) &&& 31))), (1, .int (i32 6))] := by simp [lv_args, vc_i, vc_l, vc_r, vc_n, vc_a]
  refine wp_callS (ar := [.int (i32 6), .int (x3 >>> ((i32 7) &&& 31))]) (rest := [.int xs0, .ref as1, .ref as2]) (s1 := 0) (s2 := s) (d' := d) ⟨rfl, rfl⟩ rfl (Or.inl rfl) rfl (by simp [re_cat, vc_i, vc_l, vc_r, vc_n, vc_a]) (by rw [show re_cat ([.int (i32 6), .int (x3 >>> ((i32 7) &&& 31))].reverse) = 2 from by simp [re_cat, vc_i, vc_l, vc_r, vc_n, vc_a]]; decide) (by decide) rfl rfl (Nat.le_of_eq (Nat.zero_add s)) ?_
  rw [eA]
  exact wp_mono K (fun k v h' z => wp_ret_weak (re_sb_at rfl (re_sb_at rfl (re_sb_nil _))) z)
set_option maxRecDepth 20000 in
theorem L584_213 {SC : List Value} {d s : Nat} {h : re_H} {Q : Nat → Value → re_H → Prop} {a2 : Nat} {x6 : Int32} {xs0 : Int32} {xs1 : Int32} {as2 : Nat} {as3 : Nat}
    {s1 s2 : Nat} (hs : s1 + s2 ≤ s) (K : wp SC 581 d s1 0 [(0, .ref as3), (1, .ref as2), (2, .int xs1), (3, .int xs0), (4, .int (i32 0))] [] h (wp_ret SC 584 (d + 1) s2 217 [(2, .ref a2), (6, .int x6)] [] Q)) : wp SC 584 (d + 1) s 213 [(2, .ref a2), (6, .int x6)] [.int xs0, .int xs1, .ref as2, .ref as3] h Q := by
  refine wp_run 1 (pc' := 214) (lv' := [(2, .ref a2), (6, .int x6)]) (st' := [.int (i32 0), .int xs0, .int xs1, .ref as2, .ref as3]) rfl ?_
  have eA : lv_args 0 ([.int (i32 0), .int xs0, .int xs1, .ref as2, .ref as3].reverse) = [(0, .ref as3), (1, .ref as2), (2, .int xs1), (3, .int xs0), (4, .int (i32 0))] := by simp [lv_args, vc_i, vc_l, vc_r, vc_n, vc_a]
  refine wp_callS (ar := [.int (i32 0), .int xs0, .int xs1, .ref as2, .ref as3]) (rest := []) (s1 := s1) (s2 := s2) (d' := d) ⟨rfl, rfl⟩ rfl (Or.inl rfl) rfl (by simp [re_cat, vc_i, vc_l, vc_r, vc_n, vc_a]) (by rw [show re_cat ([.int (i32 0), .int xs0, .int xs1, .ref as2, .ref as3].reverse) = 5 from by simp [re_cat, vc_i, vc_l, vc_r, vc_n, vc_a]]; decide) (by decide) rfl rfl hs ?_
  rw [eA]
  exact wp_mono K (fun k v h' z => wp_ret_weak (re_sb_at rfl (re_sb_at rfl (re_sb_nil _))) z)
set_option maxRecDepth 20000 in
theorem L584_217 {SC : List Value} {d s : Nat} {h : re_H} {Q : Nat → Value → re_H → Prop} {a2 : Nat} {x6 : Int32} {ls0 : Int64}
    (K1 : ls0 = (-2000000003) → wp SC 584 d s 251 [(2, .ref a2), (7, .long ls0)] [] h Q) (K2 : ¬ ls0 = (-2000000003) → wp SC 584 d s 228 [(2, .ref a2), (6, .int x6), (7, .long ls0)] [] h Q) : wp SC 584 d s 217 [(2, .ref a2), (6, .int x6)] [.long ls0] h Q := by
  refine wp_run 2 (pc' := 221) (lv' := [(7, .long ls0), (2, .ref a2), (6, .int x6)]) (st' := [.long ls0]) rfl ?_
  refine wp_cst (pc' := 224) (v := .long (-2000000003)) ⟨rfl, rfl⟩ rfl rfl rfl rfl rfl ?_
  refine wp_run 1 (pc' := 225) (lv' := [(7, .long ls0), (2, .ref a2), (6, .int x6)]) (st' := [.int (lg_cmp ls0 (-2000000003))]) rfl ?_
  exact wp_if ⟨rfl, rfl⟩ rfl (fun hc => wp_weak (re_sb_at rfl (re_sb_at rfl (re_sb_nil _))) (K1 (lc1_eq hc))) (fun hc => wp_weak (re_sb_at rfl (re_sb_at rfl (re_sb_at rfl (re_sb_nil _)))) (K2 (lc0_eq hc)))
set_option maxRecDepth 20000 in
theorem L584_228 {SC : List Value} {d s : Nat} {h : re_H} {Q : Nat → Value → re_H → Prop} {a2 : Nat} {x6 : Int32} {l7 : Int64}
    {xe1 : Int32} (e2 : nb_ar h a2 100 (i32 0) (.int xe1)) (K1 : xe1 < x6 → wp SC 584 d s 255 [(2, .ref a2), (7, .long l7)] [] h Q) (K2 : ¬ xe1 < x6 → wp SC 584 d s 236 [(2, .ref a2), (6, .int x6), (7, .long l7)] [] h Q) : wp SC 584 d s 228 [(2, .ref a2), (6, .int x6), (7, .long l7)] [] h Q := by
  refine wp_run 2 (pc' := 230) (lv' := [(2, .ref a2), (6, .int x6), (7, .long l7)]) (st' := [.int (i32 0), .ref a2]) rfl ?_
  obtain ⟨w2, i2, e2a, e2x, e2i, e2v⟩ := e2
  refine wp_ial ⟨rfl, rfl⟩ e2a rfl e2x e2i e2v ?_
  refine wp_run 1 (pc' := 233) (lv' := [(2, .ref a2), (6, .int x6), (7, .long l7)]) (st' := [.int x6, .int xe1]) rfl ?_
  exact wp_cmp ⟨rfl, rfl⟩ rfl (fun hc => wp_weak (re_sb_at rfl (re_sb_at rfl (re_sb_nil _))) (K1 (ic1_lt hc))) (fun hc => wp_weak (re_sb_at rfl (re_sb_at rfl (re_sb_at rfl (re_sb_nil _)))) (K2 (ic0_lt hc)))
set_option maxRecDepth 20000 in
theorem L584_236 {SC : List Value} {d s : Nat} {h : re_H} {Q : Nat → Value → re_H → Prop} {a2 : Nat} {x6 : Int32} {l7 : Int64}
    {xe1 : Int32} (e2 : nb_ar h a2 100 (i32 0) (.int xe1)) (K1 : ¬ (lg_cmp l7 ((xe1 - x6) + (i32 1)).toInt64) = 0 → wp SC 584 d s 255 [(2, .ref a2), (7, .long l7)] [] h Q) (K2 : (lg_cmp l7 ((xe1 - x6) + (i32 1)).toInt64) = 0 → wp SC 584 d s 251 [(2, .ref a2), (7, .long l7)] [] h Q) : wp SC 584 d s 236 [(2, .ref a2), (6, .int x6), (7, .long l7)] [] h Q := by
  refine wp_run 3 (pc' := 240) (lv' := [(2, .ref a2), (6, .int x6), (7, .long l7)]) (st' := [.int (i32 0), .ref a2, .long l7]) rfl ?_
  obtain ⟨w2, i2, e2a, e2x, e2i, e2v⟩ := e2
  refine wp_ial ⟨rfl, rfl⟩ e2a rfl e2x e2i e2v ?_
  refine wp_run 6 (pc' := 248) (lv' := [(2, .ref a2), (6, .int x6), (7, .long l7)]) (st' := [.int (lg_cmp l7 ((xe1 - x6) + (i32 1)).toInt64)]) rfl ?_
  exact wp_if ⟨rfl, rfl⟩ rfl (fun hc => wp_weak (re_sb_at rfl (re_sb_at rfl (re_sb_nil _))) (K1 (ic1_ne hc))) (fun hc => wp_weak (re_sb_at rfl (re_sb_at rfl (re_sb_nil _))) (K2 (ic0_ne hc)))
set_option maxRecDepth 20000 in
theorem L584_251 {SC : List Value} {d s : Nat} {h : re_H} {Q : Nat → Value → re_H → Prop} {a2 : Nat} {l7 : Int64}
    (K : wp SC 584 d s 256 [(2, .ref a2), (7, .long l7)] [.int (i32 1)] h Q) : wp SC 584 d s 251 [(2, .ref a2), (7, .long l7)] [] h Q := by
  refine wp_run 2 (pc' := 256) (lv' := [(2, .ref a2), (7, .long l7)]) (st' := [.int (i32 1)]) rfl ?_
  exact wp_weak (re_sb_at rfl (re_sb_at rfl (re_sb_nil _))) K
set_option maxRecDepth 20000 in
theorem L584_255 {SC : List Value} {d s : Nat} {h : re_H} {Q : Nat → Value → re_H → Prop} {a2 : Nat} {l7 : Int64}
    (K : wp SC 584 d s 256 [(2, .ref a2), (7, .long l7)] [.int (i32 0)] h Q) : wp SC 584 d s 255 [(2, .ref a2), (7, .long l7)] [] h Q := by
  refine wp_run 1 (pc' := 256) (lv' := [(2, .ref a2), (7, .long l7)]) (st' := [.int (i32 0)]) rfl ?_
  exact wp_weak (re_sb_at rfl (re_sb_at rfl (re_sb_nil _))) K
set_option maxRecDepth 20000 in
theorem L584_256 {SC : List Value} {d s : Nat} {h : re_H} {Q : Nat → Value → re_H → Prop} {a2 : Nat} {l7 : Int64} {xs0 : Int32}
    (K1 : ¬ (0) < l7 → wp SC 584 d s 273 [(2, .ref a2), (9, .int xs0)] [.int (i32 0), .ref a2] h Q) (K2 : (0) < l7 → wp SC 584 d s 267 [(7, .long l7), (9, .int xs0)] [.int (i32 0), .ref a2] h Q) : wp SC 584 d s 256 [(2, .ref a2), (7, .long l7)] [.int xs0] h Q := by
  refine wp_run 6 (pc' := 264) (lv' := [(9, .int xs0), (2, .ref a2), (7, .long l7)]) (st' := [.int (lg_cmp l7 (0)), .int (i32 0), .ref a2]) rfl ?_
  exact wp_if ⟨rfl, rfl⟩ rfl (fun hc => wp_weak (re_sb_at rfl (re_sb_at rfl (re_sb_nil _))) (K1 (lc1_le hc))) (fun hc => wp_weak (re_sb_at rfl (re_sb_at rfl (re_sb_nil _))) (K2 (lc0_le hc)))
set_option maxRecDepth 20000 in
theorem L584_267 {SC : List Value} {d s : Nat} {h : re_H} {Q : Nat → Value → re_H → Prop} {l7 : Int64} {x9 : Int32} {xs0 : Int32} {as1 : Nat}
    (K : wp SC 584 d s 276 [(9, .int x9)] [.int l7.toInt32, .int xs0, .ref as1] h Q) : wp SC 584 d s 267 [(7, .long l7), (9, .int x9)] [.int xs0, .ref as1] h Q := by
  refine wp_run 3 (pc' := 276) (lv' := [(7, .long l7), (9, .int x9)]) (st' := [.int l7.toInt32, .int xs0, .ref as1]) rfl ?_
  exact wp_weak (re_sb_at rfl (re_sb_nil _)) K
set_option maxRecDepth 20000 in
theorem L584_273 {SC : List Value} {d s : Nat} {h : re_H} {Q : Nat → Value → re_H → Prop} {a2 : Nat} {x9 : Int32} {xs0 : Int32} {as1 : Nat}
    {xe1 : Int32} (e2 : nb_ar h a2 100 (i32 0) (.int xe1)) (K : wp SC 584 d s 276 [(9, .int x9)] [.int xe1, .int xs0, .ref as1] h Q) : wp SC 584 d s 273 [(2, .ref a2), (9, .int x9)] [.int xs0, .ref as1] h Q := by
  refine wp_run 2 (pc' := 275) (lv' := [(2, .ref a2), (9, .int x9)]) (st' := [.int (i32 0), .ref a2, .int xs0, .ref as1]) rfl ?_
  obtain ⟨w2, i2, e2a, e2x, e2i, e2v⟩ := e2
  refine wp_ial ⟨rfl, rfl⟩ e2a rfl e2x e2i e2v ?_
  exact wp_weak (re_sb_at rfl (re_sb_nil _)) K
set_option maxRecDepth 20000 in
theorem L584_276 {SC : List Value} {d s : Nat} {h : re_H} {Q : Nat → Value → re_H → Prop} {x9 : Int32} {xs0 : Int32} {xs1 : Int32} {as2 : Nat}
    {w : List Value} {i : Nat} (e : re_hg h as2 = some (100, w)) (hx : xs1 = i32 i) (hi : i < 2147483648) (hl : i < w.length) (K : wp SC 584 d s 277 [(9, .int x9)] [] (re_hw h as2 (100, w.set i (.int xs0))) Q) : wp SC 584 d s 276 [(9, .int x9)] [.int xs0, .int xs1, .ref as2] h Q := by
  exact wp_ias ⟨rfl, rfl⟩ e rfl hx hi hl (wp_weak (re_sb_at rfl (re_sb_nil _)) K)
set_option maxRecDepth 20000 in
theorem L584_277 {SC : List Value} {d s : Nat} {h : re_H} {Q : Nat → Value → re_H → Prop} {x9 : Int32}
    (hz : x9 = 0 ∨ x9 = 1) (K : Q 1 (.int x9) h) : wp SC 584 d s 277 [(9, .int x9)] [] h Q := by
  refine wp_run 1 (pc' := 279) (lv' := [(9, .int x9)]) (st' := [.int x9]) rfl ?_
  exact wp_retz ⟨rfl, rfl⟩ rfl hz K
set_option maxRecDepth 20000 in
theorem L585_0 {SC : List Value} {d s : Nat} {h : re_H} {Q : Nat → Value → re_H → Prop} {a0 : Nat} {a1 : Nat} {a2 : Nat} {x3 : Int32} {x4 : Int32}
    (K : wp SC 577 d 0 0 [(0, .int x3), (1, .int (i32 12))] [] h (wp_ret SC 585 (d + 1) s 6 [(0, .ref a0), (1, .ref a1), (2, .ref a2), (4, .int x4)] [] Q)) : wp SC 585 (d + 1) s 0 [(0, .ref a0), (1, .ref a1), (2, .ref a2), (3, .int x3), (4, .int x4)] [] h Q := by
  refine wp_run 1 (pc' := 1) (lv' := [(0, .ref a0), (1, .ref a1), (2, .ref a2), (3, .int x3), (4, .int x4)]) (st' := [.int x3]) rfl ?_
  refine wp_bi (x := (i32 12)) ⟨rfl, rfl⟩ (by decide) ?_
  have eA : lv_args 0 ([.int (i32 12), .int x3].reverse) = [(0, .int x3), (1, .int (i32 12))] := by simp [lv_args, vc_i, vc_l, vc_r, vc_n, vc_a]
  refine wp_callS (ar := [.int (i32 12), .int x3]) (rest := []) (s1 := 0) (s2 := s) (d' := d) ⟨rfl, rfl⟩ rfl (Or.inl rfl) rfl (by simp [re_cat, vc_i, vc_l, vc_r, vc_n, vc_a]) (by rw [show re_cat ([.int (i32 12), .int x3].reverse) = 2 from by simp [re_cat, vc_i, vc_l, vc_r, vc_n, vc_a]]; decide) (by decide) rfl rfl (Nat.le_of_eq (Nat.zero_add s)) ?_
  rw [eA]
  exact wp_mono K (fun k v h' z => wp_ret_weak (re_sb_at rfl (re_sb_at rfl (re_sb_at rfl (re_sb_at rfl (re_sb_nil _))))) z)
set_option maxRecDepth 20000 in
theorem L585_6 {SC : List Value} {d s : Nat} {h : re_H} {Q : Nat → Value → re_H → Prop} {a0 : Nat} {a1 : Nat} {a2 : Nat} {x4 : Int32} {xs0 : Int32}
    {xe1 : Int32} (e2 : nb_ar h a2 100 (i32 1) (.int xe1)) (K : wp SC 577 d 0 0 [(0, .int x4), (1, .int (xe1 + (i32 1)))] [] h (wp_ret SC 585 (d + 1) s 18 [(0, .ref a0), (1, .ref a1), (2, .ref a2), (4, .int x4), (5, .int xs0)] [] Q)) : wp SC 585 (d + 1) s 6 [(0, .ref a0), (1, .ref a1), (2, .ref a2), (4, .int x4)] [.int xs0] h Q := by
  refine wp_run 4 (pc' := 12) (lv' := [(5, .int xs0), (0, .ref a0), (1, .ref a1), (2, .ref a2), (4, .int x4)]) (st' := [.int (i32 1), .ref a2, .int x4]) rfl ?_
  obtain ⟨w2, i2, e2a, e2x, e2i, e2v⟩ := e2
  refine wp_ial ⟨rfl, rfl⟩ e2a rfl e2x e2i e2v ?_
  refine wp_run 2 (pc' := 15) (lv' := [(5, .int xs0), (0, .ref a0), (1, .ref a1), (2, .ref a2), (4, .int x4)]) (st' := [.int (xe1 + (i32 1)), .int x4]) rfl ?_
  have eA : lv_args 0 ([.int (xe1 + (i32 1)), .int x4].reverse) = [(0, .int x4), (1, .int (xe1 + (i32 1)))] := by simp [lv_args, vc_i, vc_l, vc_r, vc_n, vc_a]
  refine wp_callS (ar := [.int (xe1 + (i32 1)), .int x4]) (rest := []) (s1 := 0) (s2 := s) (d' := d) ⟨rfl, rfl⟩ rfl (Or.inl rfl) rfl (by simp [re_cat, vc_i, vc_l, vc_r, vc_n, vc_a]) (by rw [show re_cat ([.int (xe1 + (i32 1)), .int x4].reverse) = 2 from by simp [re_cat, vc_i, vc_l, vc_r, vc_n, vc_a]]; decide) (by decide) rfl rfl (Nat.le_of_eq (Nat.zero_add s)) ?_
  rw [eA]
  exact wp_mono K (fun k v h' z => wp_ret_weak (re_sb_at rfl (re_sb_at rfl (re_sb_at rfl (re_sb_at rfl (re_sb_at rfl (re_sb_nil _)))))) z)
set_option maxRecDepth 20000 in
theorem L585_18 {SC : List Value} {d s : Nat} {h : re_H} {Q : Nat → Value → re_H → Prop} {a0 : Nat} {a1 : Nat} {a2 : Nat} {x4 : Int32} {x5 : Int32} {xs0 : Int32}
    (K : wp SC 577 d 0 0 [(0, .int (x4 >>> ((i32 4) &&& 31))), (1, .int (i32 6))] [] h (wp_ret SC 585 (d + 1) s 29 [(0, .ref a0), (1, .ref a1), (2, .ref a2), (4, .int x4), (5, .int x5), (6, .int xs0)] [] Q)) : wp SC 585 (d + 1) s 18 [(0, .ref a0), (1, .ref a1), (2, .ref a2), (4, .int x4), (5, .int x5)] [.int xs0] h Q := by
  refine wp_run 4 (pc' := 24) (lv' := [(6, .int xs0), (0, .ref a0), (1, .ref a1), (2, .ref a2), (4, .int x4), (5, .int x5)]) (st' := [.int (x4 >>> ((i32 4) &&& 31))]) rfl ?_
  refine wp_bi (x := (i32 6)) ⟨rfl, rfl⟩ (by decide) ?_
  have eA : lv_args 0 ([.int (i32 6), .int (x4 >>> ((i32 4) &&& 31))].reverse) = [(0, .int (x4 >>> ((i32 4) &&& 31))), (1, .int (i32 6))] := by simp [lv_args, vc_i, vc_l, vc_r, vc_n, vc_a]
  refine wp_callS (ar := [.int (i32 6), .int (x4 >>> ((i32 4) &&& 31))]) (rest := []) (s1 := 0) (s2 := s) (d' := d) ⟨rfl, rfl⟩ rfl (Or.inl rfl) rfl (by simp [re_cat, vc_i, vc_l, vc_r, vc_n, vc_a]) (by rw [show re_cat ([.int (i32 6), .int (x4 >>> ((i32 4) &&& 31))].reverse) = 2 from by simp [re_cat, vc_i, vc_l, vc_r, vc_n, vc_a]]; decide) (by decide) rfl rfl (Nat.le_of_eq (Nat.zero_add s)) ?_
  rw [eA]
  exact wp_mono K (fun k v h' z => wp_ret_weak (re_sb_at rfl (re_sb_at rfl (re_sb_at rfl (re_sb_at rfl (re_sb_at rfl (re_sb_at rfl (re_sb_nil _))))))) z)
set_option maxRecDepth 20000 in
theorem L585_29 {SC : List Value} {d s : Nat} {h : re_H} {Q : Nat → Value → re_H → Prop} {a0 : Nat} {a1 : Nat} {a2 : Nat} {x4 : Int32} {x5 : Int32} {x6 : Int32} {xs0 : Int32}
    (K1 : ¬ x5 < (i32 7) → wp SC 585 d s 151 [(0, .ref a0), (1, .ref a1), (2, .ref a2), (4, .int x4), (5, .int x5), (6, .int x6), (7, .int xs0)] [] h Q) (K2 : x5 < (i32 7) → wp SC 585 d s 38 [(0, .ref a0), (1, .ref a1), (2, .ref a2), (6, .int x6), (7, .int xs0)] [] h Q) : wp SC 585 d s 29 [(0, .ref a0), (1, .ref a1), (2, .ref a2), (4, .int x4), (5, .int x5), (6, .int x6)] [.int xs0] h Q := by
  refine wp_run 2 (pc' := 33) (lv' := [(7, .int xs0), (0, .ref a0), (1, .ref a1), (2, .ref a2), (4, .int x4), (5, .int x5), (6, .int x6)]) (st' := [.int x5]) rfl ?_
  refine wp_bi (x := (i32 7)) ⟨rfl, rfl⟩ (by decide) ?_
  exact wp_cmp ⟨rfl, rfl⟩ rfl (fun hc => wp_weak (re_sb_at rfl (re_sb_at rfl (re_sb_at rfl (re_sb_at rfl (re_sb_at rfl (re_sb_at rfl (re_sb_at rfl (re_sb_nil _)))))))) (K1 (ic1_ge hc))) (fun hc => wp_weak (re_sb_at rfl (re_sb_at rfl (re_sb_at rfl (re_sb_at rfl (re_sb_at rfl (re_sb_nil _)))))) (K2 (ic0_ge hc)))
set_option maxRecDepth 20000 in
theorem L585_38 {SC : List Value} {d s : Nat} {h : re_H} {Q : Nat → Value → re_H → Prop} {a0 : Nat} {a1 : Nat} {a2 : Nat} {x6 : Int32} {x7 : Int32}
    {s1 s2 : Nat} (hs : s1 + s2 ≤ s) (K : wp SC 581 d s1 0 [(0, .ref a0), (1, .ref a1), (2, .int (i32 10)), (3, .int x6), (4, .int x7)] [] h (wp_ret SC 585 (d + 1) s2 49 [(0, .ref a0), (2, .ref a2), (6, .int x6)] [] Q)) : wp SC 585 (d + 1) s 38 [(0, .ref a0), (1, .ref a1), (2, .ref a2), (6, .int x6), (7, .int x7)] [] h Q := by
  refine wp_run 2 (pc' := 40) (lv' := [(0, .ref a0), (1, .ref a1), (2, .ref a2), (6, .int x6), (7, .int x7)]) (st' := [.ref a1, .ref a0]) rfl ?_
  refine wp_bi (x := (i32 10)) ⟨rfl, rfl⟩ (by decide) ?_
  refine wp_run 2 (pc' := 46) (lv' := [(0, .ref a0), (1, .ref a1), (2, .ref a2), (6, .int x6), (7, .int x7)]) (st' := [.int x7, .int x6, .int (i32 10), .ref a1, .ref a0]) rfl ?_
  have eA : lv_args 0 ([.int x7, .int x6, .int (i32 10), .ref a1, .ref a0].reverse) = [(0, .ref a0), (1, .ref a1), (2, .int (i32 10)), (3, .int x6), (4, .int x7)] := by simp [lv_args, vc_i, vc_l, vc_r, vc_n, vc_a]
  refine wp_callS (ar := [.int x7, .int x6, .int (i32 10), .ref a1, .ref a0]) (rest := []) (s1 := s1) (s2 := s2) (d' := d) ⟨rfl, rfl⟩ rfl (Or.inl rfl) rfl (by simp [re_cat, vc_i, vc_l, vc_r, vc_n, vc_a]) (by rw [show re_cat ([.int x7, .int x6, .int (i32 10), .ref a1, .ref a0].reverse) = 5 from by simp [re_cat, vc_i, vc_l, vc_r, vc_n, vc_a]]; decide) (by decide) rfl rfl hs ?_
  rw [eA]
  exact wp_mono K (fun k v h' z => wp_ret_weak (re_sb_at rfl (re_sb_at rfl (re_sb_at rfl (re_sb_nil _)))) z)
set_option maxRecDepth 20000 in
theorem L585_49 {SC : List Value} {d s : Nat} {h : re_H} {Q : Nat → Value → re_H → Prop} {a0 : Nat} {a2 : Nat} {x6 : Int32} {ls0 : Int64}
    {xe1 : Int32} (e2 : nb_ar h a2 100 (i32 0) (.int xe1)) (K1 : ¬ (0) < ls0 → wp SC 585 d s 66 [(0, .ref a0), (6, .int x6), (8, .long ls0)] [.int xe1, .int (i32 0), .ref a2] h Q) (K2 : (0) < ls0 → wp SC 585 d s 62 [(0, .ref a0), (6, .int x6), (8, .long ls0)] [.int xe1, .int (i32 0), .ref a2] h Q) : wp SC 585 d s 49 [(0, .ref a0), (2, .ref a2), (6, .int x6)] [.long ls0] h Q := by
  refine wp_run 4 (pc' := 54) (lv' := [(8, .long ls0), (0, .ref a0), (2, .ref a2), (6, .int x6)]) (st' := [.int (i32 0), .ref a2, .int (i32 0), .ref a2]) rfl ?_
  obtain ⟨w2, i2, e2a, e2x, e2i, e2v⟩ := e2
  refine wp_ial ⟨rfl, rfl⟩ e2a rfl e2x e2i e2v ?_
  refine wp_run 3 (pc' := 59) (lv' := [(8, .long ls0), (0, .ref a0), (2, .ref a2), (6, .int x6)]) (st' := [.int (lg_cmp ls0 (0)), .int xe1, .int (i32 0), .ref a2]) rfl ?_
  exact wp_if ⟨rfl, rfl⟩ rfl (fun hc => wp_weak (re_sb_at rfl (re_sb_at rfl (re_sb_at rfl (re_sb_nil _)))) (K1 (lc1_le hc))) (fun hc => wp_weak (re_sb_at rfl (re_sb_at rfl (re_sb_at rfl (re_sb_nil _)))) (K2 (lc0_le hc)))
set_option maxRecDepth 20000 in
theorem L585_62 {SC : List Value} {d s : Nat} {h : re_H} {Q : Nat → Value → re_H → Prop} {a0 : Nat} {x6 : Int32} {l8 : Int64} {xs0 : Int32} {xs1 : Int32} {as2 : Nat}
    (K : wp SC 585 d s 67 [(0, .ref a0), (6, .int x6), (8, .long l8)] [.int (i32 1), .int xs0, .int xs1, .ref as2] h Q) : wp SC 585 d s 62 [(0, .ref a0), (6, .int x6), (8, .long l8)] [.int xs0, .int xs1, .ref as2] h Q := by
  refine wp_run 2 (pc' := 67) (lv' := [(0, .ref a0), (6, .int x6), (8, .long l8)]) (st' := [.int (i32 1), .int xs0, .int xs1, .ref as2]) rfl ?_
  exact wp_weak (re_sb_at rfl (re_sb_at rfl (re_sb_at rfl (re_sb_nil _)))) K
set_option maxRecDepth 20000 in
theorem L585_66 {SC : List Value} {d s : Nat} {h : re_H} {Q : Nat → Value → re_H → Prop} {a0 : Nat} {x6 : Int32} {l8 : Int64} {xs0 : Int32} {xs1 : Int32} {as2 : Nat}
    (K : wp SC 585 d s 67 [(0, .ref a0), (6, .int x6), (8, .long l8)] [.int (i32 0), .int xs0, .int xs1, .ref as2] h Q) : wp SC 585 d s 66 [(0, .ref a0), (6, .int x6), (8, .long l8)] [.int xs0, .int xs1, .ref as2] h Q := by
  refine wp_run 1 (pc' := 67) (lv' := [(0, .ref a0), (6, .int x6), (8, .long l8)]) (st' := [.int (i32 0), .int xs0, .int xs1, .ref as2]) rfl ?_
  exact wp_weak (re_sb_at rfl (re_sb_at rfl (re_sb_at rfl (re_sb_nil _)))) K
set_option maxRecDepth 20000 in
theorem L585_67 {SC : List Value} {d s : Nat} {h : re_H} {Q : Nat → Value → re_H → Prop} {a0 : Nat} {x6 : Int32} {l8 : Int64} {xs0 : Int32} {xs1 : Int32} {xs2 : Int32} {as3 : Nat}
    {w : List Value} {i : Nat} (e : re_hg h as3 = some (100, w)) (hx : xs2 = i32 i) (hi : i < 2147483648) (hl : i < w.length) (K : wp SC 585 d s 69 [(0, .ref a0), (6, .int x6), (8, .long l8)] [] (re_hw h as3 (100, w.set i (.int (xs1 - xs0)))) Q) : wp SC 585 d s 67 [(0, .ref a0), (6, .int x6), (8, .long l8)] [.int xs0, .int xs1, .int xs2, .ref as3] h Q := by
  refine wp_run 1 (pc' := 68) (lv' := [(0, .ref a0), (6, .int x6), (8, .long l8)]) (st' := [.int (xs1 - xs0), .int xs2, .ref as3]) rfl ?_
  exact wp_ias ⟨rfl, rfl⟩ e rfl hx hi hl (wp_weak (re_sb_at rfl (re_sb_at rfl (re_sb_at rfl (re_sb_nil _)))) K)
set_option maxRecDepth 20000 in
theorem L585_69 {SC : List Value} {d s : Nat} {h : re_H} {Q : Nat → Value → re_H → Prop} {a0 : Nat} {x6 : Int32} {l8 : Int64}
    (K1 : ¬ l8 = (-2000000001) → wp SC 585 d s 102 [(0, .ref a0), (6, .int x6), (8, .long l8)] [] h Q) (K2 : l8 = (-2000000001) → wp SC 585 d s 78 [(0, .ref a0), (6, .int x6)] [] h Q) : wp SC 585 d s 69 [(0, .ref a0), (6, .int x6), (8, .long l8)] [] h Q := by
  refine wp_run 1 (pc' := 71) (lv' := [(0, .ref a0), (6, .int x6), (8, .long l8)]) (st' := [.long l8]) rfl ?_
  refine wp_cst (pc' := 74) (v := .long (-2000000001)) ⟨rfl, rfl⟩ rfl rfl rfl rfl rfl ?_
  refine wp_run 1 (pc' := 75) (lv' := [(0, .ref a0), (6, .int x6), (8, .long l8)]) (st' := [.int (lg_cmp l8 (-2000000001))]) rfl ?_
  exact wp_if ⟨rfl, rfl⟩ rfl (fun hc => wp_weak (re_sb_at rfl (re_sb_at rfl (re_sb_at rfl (re_sb_nil _)))) (K1 (lc1_ne hc))) (fun hc => wp_weak (re_sb_at rfl (re_sb_at rfl (re_sb_nil _))) (K2 (lc0_ne hc)))
set_option maxRecDepth 20000 in
theorem L585_78 {SC : List Value} {d s : Nat} {h : re_H} {Q : Nat → Value → re_H → Prop} {a0 : Nat} {x6 : Int32}
    {s1 s2 : Nat} (hs : s1 + s2 ≤ s) (K : wp SC 579 d s1 0 [(0, .ref a0), (1, .int (i32 21)), (2, .int x6), (3, .int (i32 0))] [] h (wp_ret SC 585 (d + 1) s2 87 [] [] Q)) : wp SC 585 (d + 1) s 78 [(0, .ref a0), (6, .int x6)] [] h Q := by
  refine wp_run 1 (pc' := 79) (lv' := [(0, .ref a0), (6, .int x6)]) (st' := [.ref a0]) rfl ?_
  refine wp_bi (x := (i32 21)) ⟨rfl, rfl⟩ (by decide) ?_
  refine wp_run 2 (pc' := 84) (lv' := [(0, .ref a0), (6, .int x6)]) (st' := [.int (i32 0), .int x6, .int (i32 21), .ref a0]) rfl ?_
  have eA : lv_args 0 ([.int (i32 0), .int x6, .int (i32 21), .ref a0].reverse) = [(0, .ref a0), (1, .int (i32 21)), (2, .int x6), (3, .int (i32 0))] := by simp [lv_args, vc_i, vc_l, vc_r, vc_n, vc_a]
  refine wp_callS (ar := [.int (i32 0), .int x6, .int (i32 21), .ref a0]) (rest := []) (s1 := s1) (s2 := s2) (d' := d) ⟨rfl, rfl⟩ rfl (Or.inr (Or.inr rfl)) rfl (by simp [re_cat, vc_i, vc_l, vc_r, vc_n, vc_a]) (by rw [show re_cat ([.int (i32 0), .int x6, .int (i32 21), .ref a0].reverse) = 4 from by simp [re_cat, vc_i, vc_l, vc_r, vc_n, vc_a]]; decide) (by decide) rfl rfl hs ?_
  rw [eA]
  exact wp_mono K (fun k v h' z => wp_ret_weak (re_sb_nil _) z)
set_option maxRecDepth 20000 in
theorem L585_87 {SC : List Value} {d s : Nat} {h : re_H} {Q : Nat → Value → re_H → Prop} {ls0 : Int64}
    (K1 : ¬ ls0 = (-2000000001) → wp SC 585 d s 98 [] [] h Q) (K2 : ls0 = (-2000000001) → wp SC 585 d s 94 [] [] h Q) : wp SC 585 d s 87 [] [.long ls0] h Q := by
  refine wp_cst (pc' := 90) (v := .long (-2000000001)) ⟨rfl, rfl⟩ rfl rfl rfl rfl rfl ?_
  refine wp_run 1 (pc' := 91) (lv' := []) (st' := [.int (lg_cmp ls0 (-2000000001))]) rfl ?_
  exact wp_if ⟨rfl, rfl⟩ rfl (fun hc => wp_weak (re_sb_nil _) (K1 (lc1_ne hc))) (fun hc => wp_weak (re_sb_nil _) (K2 (lc0_ne hc)))
set_option maxRecDepth 20000 in
theorem L585_94 {SC : List Value} {d s : Nat} {h : re_H} {Q : Nat → Value → re_H → Prop} 
    (K : wp SC 585 d s 150 [] [.int (i32 1)] h Q) : wp SC 585 d s 94 [] [] h Q := by
  refine wp_run 2 (pc' := 150) (lv' := []) (st' := [.int (i32 1)]) rfl ?_
  exact wp_weak (re_sb_nil _) K
set_option maxRecDepth 20000 in
theorem L585_98 {SC : List Value} {d s : Nat} {h : re_H} {Q : Nat → Value → re_H → Prop} 
    (K : wp SC 585 d s 150 [] [.int (i32 0)] h Q) : wp SC 585 d s 98 [] [] h Q := by
  refine wp_run 2 (pc' := 150) (lv' := []) (st' := [.int (i32 0)]) rfl ?_
  exact wp_weak (re_sb_nil _) K
set_option maxRecDepth 20000 in
theorem L585_102 {SC : List Value} {d s : Nat} {h : re_H} {Q : Nat → Value → re_H → Prop} {a0 : Nat} {x6 : Int32} {l8 : Int64}
    (K1 : l8 = (-2000000003) → wp SC 585 d s 145 [] [] h Q) (K2 : ¬ l8 = (-2000000003) → wp SC 585 d s 111 [(0, .ref a0), (6, .int x6), (8, .long l8)] [] h Q) : wp SC 585 d s 102 [(0, .ref a0), (6, .int x6), (8, .long l8)] [] h Q := by
  refine wp_run 1 (pc' := 104) (lv' := [(0, .ref a0), (6, .int x6), (8, .long l8)]) (st' := [.long l8]) rfl ?_
  refine wp_cst (pc' := 107) (v := .long (-2000000003)) ⟨rfl, rfl⟩ rfl rfl rfl rfl rfl ?_
  refine wp_run 1 (pc' := 108) (lv' := [(0, .ref a0), (6, .int x6), (8, .long l8)]) (st' := [.int (lg_cmp l8 (-2000000003))]) rfl ?_
  exact wp_if ⟨rfl, rfl⟩ rfl (fun hc => wp_weak (re_sb_nil _) (K1 (lc1_eq hc))) (fun hc => wp_weak (re_sb_at rfl (re_sb_at rfl (re_sb_at rfl (re_sb_nil _)))) (K2 (lc0_eq hc)))
set_option maxRecDepth 20000 in
theorem L585_111 {SC : List Value} {d s : Nat} {h : re_H} {Q : Nat → Value → re_H → Prop} {a0 : Nat} {x6 : Int32} {l8 : Int64}
    (K1 : ¬ (0) < l8 → wp SC 585 d s 149 [] [] h Q) (K2 : (0) < l8 → wp SC 585 d s 118 [(0, .ref a0), (6, .int x6), (8, .long l8)] [] h Q) : wp SC 585 d s 111 [(0, .ref a0), (6, .int x6), (8, .long l8)] [] h Q := by
  refine wp_run 3 (pc' := 115) (lv' := [(0, .ref a0), (6, .int x6), (8, .long l8)]) (st' := [.int (lg_cmp l8 (0))]) rfl ?_
  exact wp_if ⟨rfl, rfl⟩ rfl (fun hc => wp_weak (re_sb_nil _) (K1 (lc1_le hc))) (fun hc => wp_weak (re_sb_at rfl (re_sb_at rfl (re_sb_at rfl (re_sb_nil _)))) (K2 (lc0_le hc)))
set_option maxRecDepth 20000 in
theorem L585_118 {SC : List Value} {d s : Nat} {h : re_H} {Q : Nat → Value → re_H → Prop} {a0 : Nat} {x6 : Int32} {l8 : Int64}
    (K1 : ¬ l8 < (5) → wp SC 585 d s 149 [] [] h Q) (K2 : l8 < (5) → wp SC 585 d s 127 [(0, .ref a0), (6, .int x6)] [] h Q) : wp SC 585 d s 118 [(0, .ref a0), (6, .int x6), (8, .long l8)] [] h Q := by
  refine wp_run 1 (pc' := 120) (lv' := [(0, .ref a0), (6, .int x6), (8, .long l8)]) (st' := [.long l8]) rfl ?_
  refine wp_cst (pc' := 123) (v := .long (5)) ⟨rfl, rfl⟩ rfl rfl rfl rfl rfl ?_
  refine wp_run 1 (pc' := 124) (lv' := [(0, .ref a0), (6, .int x6), (8, .long l8)]) (st' := [.int (lg_cmp l8 (5))]) rfl ?_
  exact wp_if ⟨rfl, rfl⟩ rfl (fun hc => wp_weak (re_sb_nil _) (K1 (lc1_ge hc))) (fun hc => wp_weak (re_sb_at rfl (re_sb_at rfl (re_sb_nil _))) (K2 (lc0_ge hc)))
set_option maxRecDepth 20000 in
theorem L585_127 {SC : List Value} {d s : Nat} {h : re_H} {Q : Nat → Value → re_H → Prop} {a0 : Nat} {x6 : Int32}
    {c : Nat} {w : List Value} (eg : re_hg h a0 = some (c, w)) (ec : c = 0) {s1 s2 : Nat} (hs : s1 + s2 ≤ s) (K : wp SC 37 d s1 0 [(0, .ref a0), (1, .int x6)] [] h (wp_ret SC 585 (d + 1) s2 133 [(0, .ref a0), (6, .int x6)] [] Q)) : wp SC 585 (d + 1) s 127 [(0, .ref a0), (6, .int x6)] [] h Q := by
  refine wp_run 2 (pc' := 130) (lv' := [(0, .ref a0), (6, .int x6)]) (st' := [.int x6, .ref a0]) rfl ?_
  have eA : lv_args 0 (.ref a0 :: [.int x6].reverse) = [(0, .ref a0), (1, .int x6)] := by simp [lv_args, vc_i, vc_l, vc_r, vc_n, vc_a]
  refine wp_callV (ar := [.int x6]) (rest := []) (s1 := s1) (s2 := s2) (d' := d) ⟨rfl, rfl⟩ rfl (Or.inl rfl)  (by simp [re_cat, vc_i, vc_l, vc_r, vc_n, vc_a]) (by rw [show re_cat (.ref a0 :: [.int x6].reverse) = 2 from by simp [re_cat, vc_i, vc_l, vc_r, vc_n, vc_a]]; decide) (by decide) rfl eg ec rfl hs ?_
  rw [eA]
  exact wp_mono K (fun k v h' z => wp_ret_weak (re_sb_at rfl (re_sb_at rfl (re_sb_nil _))) z)
set_option maxRecDepth 20000 in
theorem L585_133 {SC : List Value} {d s : Nat} {h : re_H} {Q : Nat → Value → re_H → Prop} {a0 : Nat} {x6 : Int32} {xs0 : Int32}
    {c : Nat} {w : List Value} (eg : re_hg h a0 = some (c, w)) (ec : c = 0) {s1 s2 : Nat} (hs : s1 + s2 ≤ s) (K : wp SC 37 d s1 0 [(0, .ref a0), (1, .int x6)] [] h (wp_ret SC 585 (d + 1) s2 142 [] [.int (xs0 &&& (i32 63))] Q)) : wp SC 585 (d + 1) s 133 [(0, .ref a0), (6, .int x6)] [.int xs0] h Q := by
  refine wp_bi (x := (i32 63)) ⟨rfl, rfl⟩ (by decide) ?_
  refine wp_run 3 (pc' := 139) (lv' := [(0, .ref a0), (6, .int x6)]) (st' := [.int x6, .ref a0, .int (xs0 &&& (i32 63))]) rfl ?_
  have eA : lv_args 0 (.ref a0 :: [.int x6].reverse) = [(0, .ref a0), (1, .int x6)] := by simp [lv_args, vc_i, vc_l, vc_r, vc_n, vc_a]
  refine wp_callV (ar := [.int x6]) (rest := [.int (xs0 &&& (i32 63))]) (s1 := s1) (s2 := s2) (d' := d) ⟨rfl, rfl⟩ rfl (Or.inl rfl)  (by simp [re_cat, vc_i, vc_l, vc_r, vc_n, vc_a]) (by rw [show re_cat (.ref a0 :: [.int x6].reverse) = 2 from by simp [re_cat, vc_i, vc_l, vc_r, vc_n, vc_a]]; decide) (by decide) rfl eg ec rfl hs ?_
  rw [eA]
  exact wp_mono K (fun k v h' z => wp_ret_weak (re_sb_nil _) z)
set_option maxRecDepth 20000 in
theorem L585_142 {SC : List Value} {d s : Nat} {h : re_H} {Q : Nat → Value → re_H → Prop} {xs0 : Int32} {xs1 : Int32}
    (K1 : ¬ xs1 = xs0 → wp SC 585 d s 149 [] [] h Q) (K2 : xs1 = xs0 → wp SC 585 d s 145 [] [] h Q) : wp SC 585 d s 142 [] [.int xs0, .int xs1] h Q := by
  exact wp_cmp ⟨rfl, rfl⟩ rfl (fun hc => wp_weak (re_sb_nil _) (K1 (ic1_ne hc))) (fun hc => wp_weak (re_sb_nil _) (K2 (ic0_ne hc)))
set_option maxRecDepth 20000 in
theorem L585_145 {SC : List Value} {d s : Nat} {h : re_H} {Q : Nat → Value → re_H → Prop} 
    (K : wp SC 585 d s 150 [] [.int (i32 1)] h Q) : wp SC 585 d s 145 [] [] h Q := by
  refine wp_run 2 (pc' := 150) (lv' := []) (st' := [.int (i32 1)]) rfl ?_
  exact wp_weak (re_sb_nil _) K
set_option maxRecDepth 20000 in
theorem L585_149 {SC : List Value} {d s : Nat} {h : re_H} {Q : Nat → Value → re_H → Prop} 
    (K : wp SC 585 d s 150 [] [.int (i32 0)] h Q) : wp SC 585 d s 149 [] [] h Q := by
  refine wp_run 1 (pc' := 150) (lv' := []) (st' := [.int (i32 0)]) rfl ?_
  exact wp_weak (re_sb_nil _) K
set_option maxRecDepth 20000 in
theorem L585_150 {SC : List Value} {d s : Nat} {h : re_H} {Q : Nat → Value → re_H → Prop} {xs0 : Int32}
    (hz : xs0 = 0 ∨ xs0 = 1) (K : Q 1 (.int xs0) h) : wp SC 585 d s 150 [] [.int xs0] h Q := by
  exact wp_retz ⟨rfl, rfl⟩ rfl hz K
set_option maxRecDepth 20000 in
theorem L585_151 {SC : List Value} {d s : Nat} {h : re_H} {Q : Nat → Value → re_H → Prop} {a0 : Nat} {a1 : Nat} {a2 : Nat} {x4 : Int32} {x5 : Int32} {x6 : Int32} {x7 : Int32}
    (K1 : ¬ x5 < (i32 9) → wp SC 585 d s 286 [(0, .ref a0), (1, .ref a1), (2, .ref a2), (4, .int x4), (5, .int x5), (6, .int x6), (7, .int x7)] [] h Q) (K2 : x5 < (i32 9) → wp SC 585 d s 158 [(0, .ref a0), (1, .ref a1), (2, .ref a2), (6, .int x6), (7, .int x7)] [] h Q) : wp SC 585 d s 151 [(0, .ref a0), (1, .ref a1), (2, .ref a2), (4, .int x4), (5, .int x5), (6, .int x6), (7, .int x7)] [] h Q := by
  refine wp_run 1 (pc' := 153) (lv' := [(0, .ref a0), (1, .ref a1), (2, .ref a2), (4, .int x4), (5, .int x5), (6, .int x6), (7, .int x7)]) (st' := [.int x5]) rfl ?_
  refine wp_bi (x := (i32 9)) ⟨rfl, rfl⟩ (by decide) ?_
  exact wp_cmp ⟨rfl, rfl⟩ rfl (fun hc => wp_weak (re_sb_at rfl (re_sb_at rfl (re_sb_at rfl (re_sb_at rfl (re_sb_at rfl (re_sb_at rfl (re_sb_at rfl (re_sb_nil _)))))))) (K1 (ic1_ge hc))) (fun hc => wp_weak (re_sb_at rfl (re_sb_at rfl (re_sb_at rfl (re_sb_at rfl (re_sb_at rfl (re_sb_nil _)))))) (K2 (ic0_ge hc)))
set_option maxRecDepth 20000 in
theorem L585_158 {SC : List Value} {d s : Nat} {h : re_H} {Q : Nat → Value → re_H → Prop} {a0 : Nat} {a1 : Nat} {a2 : Nat} {x6 : Int32} {x7 : Int32}
    {s1 s2 : Nat} (hs : s1 + s2 ≤ s) (K : wp SC 581 d s1 0 [(0, .ref a0), (1, .ref a1), (2, .int (i32 11)), (3, .int x6), (4, .int x7)] [] h (wp_ret SC 585 (d + 1) s2 169 [(0, .ref a0), (1, .ref a1), (2, .ref a2), (6, .int x6), (7, .int x7)] [] Q)) : wp SC 585 (d + 1) s 158 [(0, .ref a0), (1, .ref a1), (2, .ref a2), (6, .int x6), (7, .int x7)] [] h Q := by
  refine wp_run 2 (pc' := 160) (lv' := [(0, .ref a0), (1, .ref a1), (2, .ref a2), (6, .int x6), (7, .int x7)]) (st' := [.ref a1, .ref a0]) rfl ?_
  refine wp_bi (x := (i32 11)) ⟨rfl, rfl⟩ (by decide) ?_
  refine wp_run 2 (pc' := 166) (lv' := [(0, .ref a0), (1, .ref a1), (2, .ref a2), (6, .int x6), (7, .int x7)]) (st' := [.int x7, .int x6, .int (i32 11), .ref a1, .ref a0]) rfl ?_
  have eA : lv_args 0 ([.int x7, .int x6, .int (i32 11), .ref a1, .ref a0].reverse) = [(0, .ref a0), (1, .ref a1), (2, .int (i32 11)), (3, .int x6), (4, .int x7)] := by simp [lv_args, vc_i, vc_l, vc_r, vc_n, vc_a]
  refine wp_callS (ar := [.int x7, .int x6, .int (i32 11), .ref a1, .ref a0]) (rest := []) (s1 := s1) (s2 := s2) (d' := d) ⟨rfl, rfl⟩ rfl (Or.inl rfl) rfl (by simp [re_cat, vc_i, vc_l, vc_r, vc_n, vc_a]) (by rw [show re_cat ([.int x7, .int x6, .int (i32 11), .ref a1, .ref a0].reverse) = 5 from by simp [re_cat, vc_i, vc_l, vc_r, vc_n, vc_a]]; decide) (by decide) rfl rfl hs ?_
  rw [eA]
  exact wp_mono K (fun k v h' z => wp_ret_weak (re_sb_at rfl (re_sb_at rfl (re_sb_at rfl (re_sb_at rfl (re_sb_at rfl (re_sb_nil _)))))) z)
set_option maxRecDepth 20000 in
theorem L585_169 {SC : List Value} {d s : Nat} {h : re_H} {Q : Nat → Value → re_H → Prop} {a0 : Nat} {a1 : Nat} {a2 : Nat} {x6 : Int32} {x7 : Int32} {ls0 : Int64}
    (K1 : ¬ ls0 = (-2000000001) → wp SC 585 d s 204 [(0, .ref a0), (1, .ref a1), (2, .ref a2), (6, .int x6), (7, .int x7), (8, .long ls0)] [] h Q) (K2 : ls0 = (-2000000001) → wp SC 585 d s 180 [(0, .ref a0), (6, .int x6)] [] h Q) : wp SC 585 d s 169 [(0, .ref a0), (1, .ref a1), (2, .ref a2), (6, .int x6), (7, .int x7)] [.long ls0] h Q := by
  refine wp_run 2 (pc' := 173) (lv' := [(8, .long ls0), (0, .ref a0), (1, .ref a1), (2, .ref a2), (6, .int x6), (7, .int x7)]) (st' := [.long ls0]) rfl ?_
  refine wp_cst (pc' := 176) (v := .long (-2000000001)) ⟨rfl, rfl⟩ rfl rfl rfl rfl rfl ?_
  refine wp_run 1 (pc' := 177) (lv' := [(8, .long ls0), (0, .ref a0), (1, .ref a1), (2, .ref a2), (6, .int x6), (7, .int x7)]) (st' := [.int (lg_cmp ls0 (-2000000001))]) rfl ?_
  exact wp_if ⟨rfl, rfl⟩ rfl (fun hc => wp_weak (re_sb_at rfl (re_sb_at rfl (re_sb_at rfl (re_sb_at rfl (re_sb_at rfl (re_sb_at rfl (re_sb_nil _))))))) (K1 (lc1_ne hc))) (fun hc => wp_weak (re_sb_at rfl (re_sb_at rfl (re_sb_nil _))) (K2 (lc0_ne hc)))
set_option maxRecDepth 20000 in
theorem L585_180 {SC : List Value} {d s : Nat} {h : re_H} {Q : Nat → Value → re_H → Prop} {a0 : Nat} {x6 : Int32}
    {s1 s2 : Nat} (hs : s1 + s2 ≤ s) (K : wp SC 579 d s1 0 [(0, .ref a0), (1, .int (i32 21)), (2, .int x6), (3, .int (i32 0))] [] h (wp_ret SC 585 (d + 1) s2 189 [] [] Q)) : wp SC 585 (d + 1) s 180 [(0, .ref a0), (6, .int x6)] [] h Q := by
  refine wp_run 1 (pc' := 181) (lv' := [(0, .ref a0), (6, .int x6)]) (st' := [.ref a0]) rfl ?_
  refine wp_bi (x := (i32 21)) ⟨rfl, rfl⟩ (by decide) ?_
  refine wp_run 2 (pc' := 186) (lv' := [(0, .ref a0), (6, .int x6)]) (st' := [.int (i32 0), .int x6, .int (i32 21), .ref a0]) rfl ?_
  have eA : lv_args 0 ([.int (i32 0), .int x6, .int (i32 21), .ref a0].reverse) = [(0, .ref a0), (1, .int (i32 21)), (2, .int x6), (3, .int (i32 0))] := by simp [lv_args, vc_i, vc_l, vc_r, vc_n, vc_a]
  refine wp_callS (ar := [.int (i32 0), .int x6, .int (i32 21), .ref a0]) (rest := []) (s1 := s1) (s2 := s2) (d' := d) ⟨rfl, rfl⟩ rfl (Or.inr (Or.inr rfl)) rfl (by simp [re_cat, vc_i, vc_l, vc_r, vc_n, vc_a]) (by rw [show re_cat ([.int (i32 0), .int x6, .int (i32 21), .ref a0].reverse) = 4 from by simp [re_cat, vc_i, vc_l, vc_r, vc_n, vc_a]]; decide) (by decide) rfl rfl hs ?_
  rw [eA]
  exact wp_mono K (fun k v h' z => wp_ret_weak (re_sb_nil _) z)
set_option maxRecDepth 20000 in
theorem L585_189 {SC : List Value} {d s : Nat} {h : re_H} {Q : Nat → Value → re_H → Prop} {ls0 : Int64}
    (K1 : ¬ ls0 = (-2000000001) → wp SC 585 d s 200 [] [] h Q) (K2 : ls0 = (-2000000001) → wp SC 585 d s 196 [] [] h Q) : wp SC 585 d s 189 [] [.long ls0] h Q := by
  refine wp_cst (pc' := 192) (v := .long (-2000000001)) ⟨rfl, rfl⟩ rfl rfl rfl rfl rfl ?_
  refine wp_run 1 (pc' := 193) (lv' := []) (st' := [.int (lg_cmp ls0 (-2000000001))]) rfl ?_
  exact wp_if ⟨rfl, rfl⟩ rfl (fun hc => wp_weak (re_sb_nil _) (K1 (lc1_ne hc))) (fun hc => wp_weak (re_sb_nil _) (K2 (lc0_ne hc)))
set_option maxRecDepth 20000 in
theorem L585_196 {SC : List Value} {d s : Nat} {h : re_H} {Q : Nat → Value → re_H → Prop} 
    (K : wp SC 585 d s 285 [] [.int (i32 1)] h Q) : wp SC 585 d s 196 [] [] h Q := by
  refine wp_run 2 (pc' := 285) (lv' := []) (st' := [.int (i32 1)]) rfl ?_
  exact wp_weak (re_sb_nil _) K
set_option maxRecDepth 20000 in
theorem L585_200 {SC : List Value} {d s : Nat} {h : re_H} {Q : Nat → Value → re_H → Prop} 
    (K : wp SC 585 d s 285 [] [.int (i32 0)] h Q) : wp SC 585 d s 200 [] [] h Q := by
  refine wp_run 2 (pc' := 285) (lv' := []) (st' := [.int (i32 0)]) rfl ?_
  exact wp_weak (re_sb_nil _) K
set_option maxRecDepth 20000 in
theorem L585_204 {SC : List Value} {d s : Nat} {h : re_H} {Q : Nat → Value → re_H → Prop} {a0 : Nat} {a1 : Nat} {a2 : Nat} {x6 : Int32} {x7 : Int32} {l8 : Int64}
    (K1 : l8 = (-2000000003) → wp SC 585 d s 280 [] [] h Q) (K2 : ¬ l8 = (-2000000003) → wp SC 585 d s 213 [(0, .ref a0), (1, .ref a1), (2, .ref a2), (6, .int x6), (7, .int x7), (8, .long l8)] [] h Q) : wp SC 585 d s 204 [(0, .ref a0), (1, .ref a1), (2, .ref a2), (6, .int x6), (7, .int x7), (8, .long l8)] [] h Q := by
  refine wp_run 1 (pc' := 206) (lv' := [(0, .ref a0), (1, .ref a1), (2, .ref a2), (6, .int x6), (7, .int x7), (8, .long l8)]) (st' := [.long l8]) rfl ?_
  refine wp_cst (pc' := 209) (v := .long (-2000000003)) ⟨rfl, rfl⟩ rfl rfl rfl rfl rfl ?_
  refine wp_run 1 (pc' := 210) (lv' := [(0, .ref a0), (1, .ref a1), (2, .ref a2), (6, .int x6), (7, .int x7), (8, .long l8)]) (st' := [.int (lg_cmp l8 (-2000000003))]) rfl ?_
  exact wp_if ⟨rfl, rfl⟩ rfl (fun hc => wp_weak (re_sb_nil _) (K1 (lc1_eq hc))) (fun hc => wp_weak (re_sb_at rfl (re_sb_at rfl (re_sb_at rfl (re_sb_at rfl (re_sb_at rfl (re_sb_at rfl (re_sb_nil _))))))) (K2 (lc0_eq hc)))
set_option maxRecDepth 20000 in
theorem L585_213 {SC : List Value} {d s : Nat} {h : re_H} {Q : Nat → Value → re_H → Prop} {a0 : Nat} {a1 : Nat} {a2 : Nat} {x6 : Int32} {x7 : Int32} {l8 : Int64}
    (K1 : l8 < (0) → wp SC 585 d s 284 [] [] h Q) (K2 : ¬ l8 < (0) → wp SC 585 d s 220 [(0, .ref a0), (1, .ref a1), (2, .ref a2), (6, .int x6), (7, .int x7), (8, .long l8)] [] h Q) : wp SC 585 d s 213 [(0, .ref a0), (1, .ref a1), (2, .ref a2), (6, .int x6), (7, .int x7), (8, .long l8)] [] h Q := by
  refine wp_run 3 (pc' := 217) (lv' := [(0, .ref a0), (1, .ref a1), (2, .ref a2), (6, .int x6), (7, .int x7), (8, .long l8)]) (st' := [.int (lg_cmp l8 (0))]) rfl ?_
  exact wp_if ⟨rfl, rfl⟩ rfl (fun hc => wp_weak (re_sb_nil _) (K1 (lc1_lt hc))) (fun hc => wp_weak (re_sb_at rfl (re_sb_at rfl (re_sb_at rfl (re_sb_at rfl (re_sb_at rfl (re_sb_at rfl (re_sb_nil _))))))) (K2 (lc0_lt hc)))
set_option maxRecDepth 20000 in
theorem L585_220 {SC : List Value} {d s : Nat} {h : re_H} {Q : Nat → Value → re_H → Prop} {a0 : Nat} {a1 : Nat} {a2 : Nat} {x6 : Int32} {x7 : Int32} {l8 : Int64}
    (K1 : ¬ l8 < (4) → wp SC 585 d s 284 [] [] h Q) (K2 : l8 < (4) → wp SC 585 d s 229 [(0, .ref a0), (1, .ref a1), (2, .ref a2), (6, .int x6), (7, .int x7)] [] h Q) : wp SC 585 d s 220 [(0, .ref a0), (1, .ref a1), (2, .ref a2), (6, .int x6), (7, .int x7), (8, .long l8)] [] h Q := by
  refine wp_run 1 (pc' := 222) (lv' := [(0, .ref a0), (1, .ref a1), (2, .ref a2), (6, .int x6), (7, .int x7), (8, .long l8)]) (st' := [.long l8]) rfl ?_
  refine wp_cst (pc' := 225) (v := .long (4)) ⟨rfl, rfl⟩ rfl rfl rfl rfl rfl ?_
  refine wp_run 1 (pc' := 226) (lv' := [(0, .ref a0), (1, .ref a1), (2, .ref a2), (6, .int x6), (7, .int x7), (8, .long l8)]) (st' := [.int (lg_cmp l8 (4))]) rfl ?_
  exact wp_if ⟨rfl, rfl⟩ rfl (fun hc => wp_weak (re_sb_nil _) (K1 (lc1_ge hc))) (fun hc => wp_weak (re_sb_at rfl (re_sb_at rfl (re_sb_at rfl (re_sb_at rfl (re_sb_at rfl (re_sb_nil _)))))) (K2 (lc0_ge hc)))
set_option maxRecDepth 20000 in
theorem L585_229 {SC : List Value} {d s : Nat} {h : re_H} {Q : Nat → Value → re_H → Prop} {a0 : Nat} {a1 : Nat} {a2 : Nat} {x6 : Int32} {x7 : Int32}
    {xe1 : Int32} (e2 : nb_ar h a2 100 (i32 2) (.int xe1)) (K1 : 0 < xe1 → wp SC 585 d s 246 [(0, .ref a0), (1, .ref a1), (6, .int x6), (7, .int x7)] [] h Q) (K2 : ¬ 0 < xe1 → wp SC 585 d s 235 [(0, .ref a0), (1, .ref a1), (6, .int x6), (7, .int x7)] [] h Q) : wp SC 585 d s 229 [(0, .ref a0), (1, .ref a1), (2, .ref a2), (6, .int x6), (7, .int x7)] [] h Q := by
  refine wp_run 2 (pc' := 231) (lv' := [(0, .ref a0), (1, .ref a1), (2, .ref a2), (6, .int x6), (7, .int x7)]) (st' := [.int (i32 2), .ref a2]) rfl ?_
  obtain ⟨w2, i2, e2a, e2x, e2i, e2v⟩ := e2
  refine wp_ial ⟨rfl, rfl⟩ e2a rfl e2x e2i e2v ?_
  exact wp_if ⟨rfl, rfl⟩ rfl (fun hc => wp_weak (re_sb_at rfl (re_sb_at rfl (re_sb_at rfl (re_sb_at rfl (re_sb_nil _))))) (K1 (ic1_gt hc))) (fun hc => wp_weak (re_sb_at rfl (re_sb_at rfl (re_sb_at rfl (re_sb_at rfl (re_sb_nil _))))) (K2 (ic0_gt hc)))
set_option maxRecDepth 20000 in
theorem L585_235 {SC : List Value} {d s : Nat} {h : re_H} {Q : Nat → Value → re_H → Prop} {a0 : Nat} {a1 : Nat} {x6 : Int32} {x7 : Int32}
    {c : Nat} {w : List Value} (eg : re_hg h a0 = some (c, w)) (ec : c = 0) {s1 s2 : Nat} (hs : s1 + s2 ≤ s) (K : wp SC 33 d s1 0 [(0, .ref a0), (1, .int x6), (2, .int x7)] [] h (wp_ret SC 585 (d + 1) s2 243 [(0, .ref a0), (1, .ref a1), (6, .int x6), (7, .int x7)] [] Q)) : wp SC 585 (d + 1) s 235 [(0, .ref a0), (1, .ref a1), (6, .int x6), (7, .int x7)] [] h Q := by
  refine wp_run 3 (pc' := 240) (lv' := [(0, .ref a0), (1, .ref a1), (6, .int x6), (7, .int x7)]) (st' := [.int x7, .int x6, .ref a0]) rfl ?_
  have eA : lv_args 0 (.ref a0 :: [.int x7, .int x6].reverse) = [(0, .ref a0), (1, .int x6), (2, .int x7)] := by simp [lv_args, vc_i, vc_l, vc_r, vc_n, vc_a]
  refine wp_callV (ar := [.int x7, .int x6]) (rest := []) (s1 := s1) (s2 := s2) (d' := d) ⟨rfl, rfl⟩ rfl (Or.inl rfl)  (by simp [re_cat, vc_i, vc_l, vc_r, vc_n, vc_a]) (by rw [show re_cat (.ref a0 :: [.int x7, .int x6].reverse) = 3 from by simp [re_cat, vc_i, vc_l, vc_r, vc_n, vc_a]]; decide) (by decide) rfl eg ec rfl hs ?_
  rw [eA]
  exact wp_mono K (fun k v h' z => wp_ret_weak (re_sb_at rfl (re_sb_at rfl (re_sb_at rfl (re_sb_at rfl (re_sb_nil _))))) z)
set_option maxRecDepth 20000 in
theorem L585_243 {SC : List Value} {d s : Nat} {h : re_H} {Q : Nat → Value → re_H → Prop} {a0 : Nat} {a1 : Nat} {x6 : Int32} {x7 : Int32} {xs0 : Int32}
    (K1 : ¬ xs0 = 0 → wp SC 585 d s 284 [] [] h Q) (K2 : xs0 = 0 → wp SC 585 d s 246 [(0, .ref a0), (1, .ref a1), (6, .int x6), (7, .int x7)] [] h Q) : wp SC 585 d s 243 [(0, .ref a0), (1, .ref a1), (6, .int x6), (7, .int x7)] [.int xs0] h Q := by
  exact wp_if ⟨rfl, rfl⟩ rfl (fun hc => wp_weak (re_sb_nil _) (K1 (ic1_ne hc))) (fun hc => wp_weak (re_sb_at rfl (re_sb_at rfl (re_sb_at rfl (re_sb_at rfl (re_sb_nil _))))) (K2 (ic0_ne hc)))
set_option maxRecDepth 20000 in
theorem L585_246 {SC : List Value} {d s : Nat} {h : re_H} {Q : Nat → Value → re_H → Prop} {a0 : Nat} {a1 : Nat} {x6 : Int32} {x7 : Int32}
    {s1 s2 : Nat} (hs : s1 + s2 ≤ s) (K : wp SC 579 d s1 0 [(0, .ref a0), (1, .int (i32 11)), (2, .int x6), (3, .int x7)] [] h (wp_ret SC 585 (d + 1) s2 256 [(1, .ref a1), (6, .int x6), (7, .int x7)] [] Q)) : wp SC 585 (d + 1) s 246 [(0, .ref a0), (1, .ref a1), (6, .int x6), (7, .int x7)] [] h Q := by
  refine wp_run 1 (pc' := 247) (lv' := [(0, .ref a0), (1, .ref a1), (6, .int x6), (7, .int x7)]) (st' := [.ref a0]) rfl ?_
  refine wp_bi (x := (i32 11)) ⟨rfl, rfl⟩ (by decide) ?_
  refine wp_run 2 (pc' := 253) (lv' := [(0, .ref a0), (1, .ref a1), (6, .int x6), (7, .int x7)]) (st' := [.int x7, .int x6, .int (i32 11), .ref a0]) rfl ?_
  have eA : lv_args 0 ([.int x7, .int x6, .int (i32 11), .ref a0].reverse) = [(0, .ref a0), (1, .int (i32 11)), (2, .int x6), (3, .int x7)] := by simp [lv_args, vc_i, vc_l, vc_r, vc_n, vc_a]
  refine wp_callS (ar := [.int x7, .int x6, .int (i32 11), .ref a0]) (rest := []) (s1 := s1) (s2 := s2) (d' := d) ⟨rfl, rfl⟩ rfl (Or.inr (Or.inr rfl)) rfl (by simp [re_cat, vc_i, vc_l, vc_r, vc_n, vc_a]) (by rw [show re_cat ([.int x7, .int x6, .int (i32 11), .ref a0].reverse) = 4 from by simp [re_cat, vc_i, vc_l, vc_r, vc_n, vc_a]]; decide) (by decide) rfl rfl hs ?_
  rw [eA]
  exact wp_mono K (fun k v h' z => wp_ret_weak (re_sb_at rfl (re_sb_at rfl (re_sb_at rfl (re_sb_nil _)))) z)
set_option maxRecDepth 20000 in
theorem L585_256 {SC : List Value} {d s : Nat} {h : re_H} {Q : Nat → Value → re_H → Prop} {a1 : Nat} {x6 : Int32} {x7 : Int32} {ls0 : Int64}
    (K1 : ¬ ls0 = (-2000000003) → wp SC 585 d s 284 [] [] h Q) (K2 : ls0 = (-2000000003) → wp SC 585 d s 263 [(1, .ref a1), (6, .int x6), (7, .int x7)] [] h Q) : wp SC 585 d s 256 [(1, .ref a1), (6, .int x6), (7, .int x7)] [.long ls0] h Q := by
  refine wp_cst (pc' := 259) (v := .long (-2000000003)) ⟨rfl, rfl⟩ rfl rfl rfl rfl rfl ?_
  refine wp_run 1 (pc' := 260) (lv' := [(1, .ref a1), (6, .int x6), (7, .int x7)]) (st' := [.int (lg_cmp ls0 (-2000000003))]) rfl ?_
  exact wp_if ⟨rfl, rfl⟩ rfl (fun hc => wp_weak (re_sb_nil _) (K1 (lc1_ne hc))) (fun hc => wp_weak (re_sb_at rfl (re_sb_at rfl (re_sb_at rfl (re_sb_nil _)))) (K2 (lc0_ne hc)))
set_option maxRecDepth 20000 in
theorem L585_263 {SC : List Value} {d s : Nat} {h : re_H} {Q : Nat → Value → re_H → Prop} {a1 : Nat} {x6 : Int32} {x7 : Int32}
    {s1 s2 : Nat} (hs : s1 + s2 ≤ s) (K : wp SC 579 d s1 0 [(0, .ref a1), (1, .int (i32 11)), (2, .int x6), (3, .int x7)] [] h (wp_ret SC 585 (d + 1) s2 273 [] [] Q)) : wp SC 585 (d + 1) s 263 [(1, .ref a1), (6, .int x6), (7, .int x7)] [] h Q := by
  refine wp_run 1 (pc' := 264) (lv' := [(1, .ref a1), (6, .int x6), (7, .int x7)]) (st' := [.ref a1]) rfl ?_
  refine wp_bi (x := (i32 11)) ⟨rfl, rfl⟩ (by decide) ?_
  refine wp_run 2 (pc' := 270) (lv' := [(1, .ref a1), (6, .int x6), (7, .int x7)]) (st' := [.int x7, .int x6, .int (i32 11), .ref a1]) rfl ?_
  have eA : lv_args 0 ([.int x7, .int x6, .int (i32 11), .ref a1].reverse) = [(0, .ref a1), (1, .int (i32 11)), (2, .int x6), (3, .int x7)] := by simp [lv_args, vc_i, vc_l, vc_r, vc_n, vc_a]
  refine wp_callS (ar := [.int x7, .int x6, .int (i32 11), .ref a1]) (rest := []) (s1 := s1) (s2 := s2) (d' := d) ⟨rfl, rfl⟩ rfl (Or.inr (Or.inr rfl)) rfl (by simp [re_cat, vc_i, vc_l, vc_r, vc_n, vc_a]) (by rw [show re_cat ([.int x7, .int x6, .int (i32 11), .ref a1].reverse) = 4 from by simp [re_cat, vc_i, vc_l, vc_r, vc_n, vc_a]]; decide) (by decide) rfl rfl hs ?_
  rw [eA]
  exact wp_mono K (fun k v h' z => wp_ret_weak (re_sb_nil _) z)
set_option maxRecDepth 20000 in
theorem L585_273 {SC : List Value} {d s : Nat} {h : re_H} {Q : Nat → Value → re_H → Prop} {ls0 : Int64}
    (K1 : ¬ ls0 = (-2000000003) → wp SC 585 d s 284 [] [] h Q) (K2 : ls0 = (-2000000003) → wp SC 585 d s 280 [] [] h Q) : wp SC 585 d s 273 [] [.long ls0] h Q := by
  refine wp_cst (pc' := 276) (v := .long (-2000000003)) ⟨rfl, rfl⟩ rfl rfl rfl rfl rfl ?_
  refine wp_run 1 (pc' := 277) (lv' := []) (st' := [.int (lg_cmp ls0 (-2000000003))]) rfl ?_
  exact wp_if ⟨rfl, rfl⟩ rfl (fun hc => wp_weak (re_sb_nil _) (K1 (lc1_ne hc))) (fun hc => wp_weak (re_sb_nil _) (K2 (lc0_ne hc)))
set_option maxRecDepth 20000 in
theorem L585_280 {SC : List Value} {d s : Nat} {h : re_H} {Q : Nat → Value → re_H → Prop} 
    (K : wp SC 585 d s 285 [] [.int (i32 1)] h Q) : wp SC 585 d s 280 [] [] h Q := by
  refine wp_run 2 (pc' := 285) (lv' := []) (st' := [.int (i32 1)]) rfl ?_
  exact wp_weak (re_sb_nil _) K
set_option maxRecDepth 20000 in
theorem L585_284 {SC : List Value} {d s : Nat} {h : re_H} {Q : Nat → Value → re_H → Prop} 
    (K : wp SC 585 d s 285 [] [.int (i32 0)] h Q) : wp SC 585 d s 284 [] [] h Q := by
  refine wp_run 1 (pc' := 285) (lv' := []) (st' := [.int (i32 0)]) rfl ?_
  exact wp_weak (re_sb_nil _) K
set_option maxRecDepth 20000 in
theorem L585_285 {SC : List Value} {d s : Nat} {h : re_H} {Q : Nat → Value → re_H → Prop} {xs0 : Int32}
    (hz : xs0 = 0 ∨ xs0 = 1) (K : Q 1 (.int xs0) h) : wp SC 585 d s 285 [] [.int xs0] h Q := by
  exact wp_retz ⟨rfl, rfl⟩ rfl hz K
set_option maxRecDepth 20000 in
theorem L585_286 {SC : List Value} {d s : Nat} {h : re_H} {Q : Nat → Value → re_H → Prop} {a0 : Nat} {a1 : Nat} {a2 : Nat} {x4 : Int32} {x5 : Int32} {x6 : Int32} {x7 : Int32}
    (K1 : ¬ x5 < (i32 10) → wp SC 585 d s 365 [(0, .ref a0), (1, .ref a1), (4, .int x4), (5, .int x5), (6, .int x6), (7, .int x7)] [] h Q) (K2 : x5 < (i32 10) → wp SC 585 d s 293 [(0, .ref a0), (1, .ref a1), (2, .ref a2)] [] h Q) : wp SC 585 d s 286 [(0, .ref a0), (1, .ref a1), (2, .ref a2), (4, .int x4), (5, .int x5), (6, .int x6), (7, .int x7)] [] h Q := by
  refine wp_run 1 (pc' := 288) (lv' := [(0, .ref a0), (1, .ref a1), (2, .ref a2), (4, .int x4), (5, .int x5), (6, .int x6), (7, .int x7)]) (st' := [.int x5]) rfl ?_
  refine wp_bi (x := (i32 10)) ⟨rfl, rfl⟩ (by decide) ?_
  exact wp_cmp ⟨rfl, rfl⟩ rfl (fun hc => wp_weak (re_sb_at rfl (re_sb_at rfl (re_sb_at rfl (re_sb_at rfl (re_sb_at rfl (re_sb_at rfl (re_sb_nil _))))))) (K1 (ic1_ge hc))) (fun hc => wp_weak (re_sb_at rfl (re_sb_at rfl (re_sb_at rfl (re_sb_nil _)))) (K2 (ic0_ge hc)))
set_option maxRecDepth 20000 in
theorem L585_293 {SC : List Value} {d s : Nat} {h : re_H} {Q : Nat → Value → re_H → Prop} {a0 : Nat} {a1 : Nat} {a2 : Nat}
    {s1 s2 : Nat} (hs : s1 + s2 ≤ s) (K : wp SC 581 d s1 0 [(0, .ref a0), (1, .ref a1), (2, .int (i32 9)), (3, .int (i32 0)), (4, .int (i32 0))] [] h (wp_ret SC 585 (d + 1) s2 302 [(2, .ref a2)] [] Q)) : wp SC 585 (d + 1) s 293 [(0, .ref a0), (1, .ref a1), (2, .ref a2)] [] h Q := by
  refine wp_run 2 (pc' := 295) (lv' := [(0, .ref a0), (1, .ref a1), (2, .ref a2)]) (st' := [.ref a1, .ref a0]) rfl ?_
  refine wp_bi (x := (i32 9)) ⟨rfl, rfl⟩ (by decide) ?_
  refine wp_run 2 (pc' := 299) (lv' := [(0, .ref a0), (1, .ref a1), (2, .ref a2)]) (st' := [.int (i32 0), .int (i32 0), .int (i32 9), .ref a1, .ref a0]) rfl ?_
  have eA : lv_args 0 ([.int (i32 0), .int (i32 0), .int (i32 9), .ref a1, .ref a0].reverse) = [(0, .ref a0), (1, .ref a1), (2, .int (i32 9)), (3, .int (i32 0)), (4, .int (i32 0))] := by simp [lv_args, vc_i, vc_l, vc_r, vc_n, vc_a]
  refine wp_callS (ar := [.int (i32 0), .int (i32 0), .int (i32 9), .ref a1, .ref a0]) (rest := []) (s1 := s1) (s2 := s2) (d' := d) ⟨rfl, rfl⟩ rfl (Or.inl rfl) rfl (by simp [re_cat, vc_i, vc_l, vc_r, vc_n, vc_a]) (by rw [show re_cat ([.int (i32 0), .int (i32 0), .int (i32 9), .ref a1, .ref a0].reverse) = 5 from by simp [re_cat, vc_i, vc_l, vc_r, vc_n, vc_a]]; decide) (by decide) rfl rfl hs ?_
  rw [eA]
  exact wp_mono K (fun k v h' z => wp_ret_weak (re_sb_at rfl (re_sb_nil _)) z)
set_option maxRecDepth 20000 in
theorem L585_302 {SC : List Value} {d s : Nat} {h : re_H} {Q : Nat → Value → re_H → Prop} {a2 : Nat} {ls0 : Int64}
    {xe1 : Int32} (e2 : nb_ar h a2 100 (i32 1) (.int xe1)) (K1 : ls0 < (0) → wp SC 585 d s 319 [(2, .ref a2), (8, .long ls0)] [.int xe1, .int (i32 1), .ref a2] h Q) (K2 : ¬ ls0 < (0) → wp SC 585 d s 315 [(2, .ref a2), (8, .long ls0)] [.int xe1, .int (i32 1), .ref a2] h Q) : wp SC 585 d s 302 [(2, .ref a2)] [.long ls0] h Q := by
  refine wp_run 4 (pc' := 307) (lv' := [(8, .long ls0), (2, .ref a2)]) (st' := [.int (i32 1), .ref a2, .int (i32 1), .ref a2]) rfl ?_
  obtain ⟨w2, i2, e2a, e2x, e2i, e2v⟩ := e2
  refine wp_ial ⟨rfl, rfl⟩ e2a rfl e2x e2i e2v ?_
  refine wp_run 3 (pc' := 312) (lv' := [(8, .long ls0), (2, .ref a2)]) (st' := [.int (lg_cmp ls0 (0)), .int xe1, .int (i32 1), .ref a2]) rfl ?_
  exact wp_if ⟨rfl, rfl⟩ rfl (fun hc => wp_weak (re_sb_at rfl (re_sb_at rfl (re_sb_nil _))) (K1 (lc1_lt hc))) (fun hc => wp_weak (re_sb_at rfl (re_sb_at rfl (re_sb_nil _))) (K2 (lc0_lt hc)))
set_option maxRecDepth 20000 in
theorem L585_315 {SC : List Value} {d s : Nat} {h : re_H} {Q : Nat → Value → re_H → Prop} {a2 : Nat} {l8 : Int64} {xs0 : Int32} {xs1 : Int32} {as2 : Nat}
    (K : wp SC 585 d s 320 [(2, .ref a2), (8, .long l8)] [.int (i32 1), .int xs0, .int xs1, .ref as2] h Q) : wp SC 585 d s 315 [(2, .ref a2), (8, .long l8)] [.int xs0, .int xs1, .ref as2] h Q := by
  refine wp_run 2 (pc' := 320) (lv' := [(2, .ref a2), (8, .long l8)]) (st' := [.int (i32 1), .int xs0, .int xs1, .ref as2]) rfl ?_
  exact wp_weak (re_sb_at rfl (re_sb_at rfl (re_sb_nil _))) K
set_option maxRecDepth 20000 in
theorem L585_319 {SC : List Value} {d s : Nat} {h : re_H} {Q : Nat → Value → re_H → Prop} {a2 : Nat} {l8 : Int64} {xs0 : Int32} {xs1 : Int32} {as2 : Nat}
    (K : wp SC 585 d s 320 [(2, .ref a2), (8, .long l8)] [.int (i32 0), .int xs0, .int xs1, .ref as2] h Q) : wp SC 585 d s 319 [(2, .ref a2), (8, .long l8)] [.int xs0, .int xs1, .ref as2] h Q := by
  refine wp_run 1 (pc' := 320) (lv' := [(2, .ref a2), (8, .long l8)]) (st' := [.int (i32 0), .int xs0, .int xs1, .ref as2]) rfl ?_
  exact wp_weak (re_sb_at rfl (re_sb_at rfl (re_sb_nil _))) K
set_option maxRecDepth 20000 in
theorem L585_320 {SC : List Value} {d s : Nat} {h : re_H} {Q : Nat → Value → re_H → Prop} {a2 : Nat} {l8 : Int64} {xs0 : Int32} {xs1 : Int32} {xs2 : Int32} {as3 : Nat}
    {w : List Value} {i : Nat} (e : re_hg h as3 = some (100, w)) (hx : xs2 = i32 i) (hi : i < 2147483648) (hl : i < w.length) (K : wp SC 585 d s 322 [(2, .ref a2), (8, .long l8)] [] (re_hw h as3 (100, w.set i (.int (xs1 + xs0)))) Q) : wp SC 585 d s 320 [(2, .ref a2), (8, .long l8)] [.int xs0, .int xs1, .int xs2, .ref as3] h Q := by
  refine wp_run 1 (pc' := 321) (lv' := [(2, .ref a2), (8, .long l8)]) (st' := [.int (xs1 + xs0), .int xs2, .ref as3]) rfl ?_
  exact wp_ias ⟨rfl, rfl⟩ e rfl hx hi hl (wp_weak (re_sb_at rfl (re_sb_at rfl (re_sb_nil _))) K)
set_option maxRecDepth 20000 in
theorem L585_322 {SC : List Value} {d s : Nat} {h : re_H} {Q : Nat → Value → re_H → Prop} {a2 : Nat} {l8 : Int64}
    (K1 : ¬ l8 = (-2000000003) → wp SC 585 d s 347 [(2, .ref a2), (8, .long l8)] [] h Q) (K2 : l8 = (-2000000003) → wp SC 585 d s 331 [(2, .ref a2)] [] h Q) : wp SC 585 d s 322 [(2, .ref a2), (8, .long l8)] [] h Q := by
  refine wp_run 1 (pc' := 324) (lv' := [(2, .ref a2), (8, .long l8)]) (st' := [.long l8]) rfl ?_
  refine wp_cst (pc' := 327) (v := .long (-2000000003)) ⟨rfl, rfl⟩ rfl rfl rfl rfl rfl ?_
  refine wp_run 1 (pc' := 328) (lv' := [(2, .ref a2), (8, .long l8)]) (st' := [.int (lg_cmp l8 (-2000000003))]) rfl ?_
  exact wp_if ⟨rfl, rfl⟩ rfl (fun hc => wp_weak (re_sb_at rfl (re_sb_at rfl (re_sb_nil _))) (K1 (lc1_ne hc))) (fun hc => wp_weak (re_sb_at rfl (re_sb_nil _)) (K2 (lc0_ne hc)))
set_option maxRecDepth 20000 in
theorem L585_331 {SC : List Value} {d s : Nat} {h : re_H} {Q : Nat → Value → re_H → Prop} {a2 : Nat}
    {xe1 : Int32} (e2 : nb_ar h a2 100 (i32 1) (.int xe1)) (K1 : ¬ xe1 = (i32 12) → wp SC 585 d s 343 [] [] h Q) (K2 : xe1 = (i32 12) → wp SC 585 d s 339 [] [] h Q) : wp SC 585 d s 331 [(2, .ref a2)] [] h Q := by
  refine wp_run 2 (pc' := 333) (lv' := [(2, .ref a2)]) (st' := [.int (i32 1), .ref a2]) rfl ?_
  obtain ⟨w2, i2, e2a, e2x, e2i, e2v⟩ := e2
  refine wp_ial ⟨rfl, rfl⟩ e2a rfl e2x e2i e2v ?_
  refine wp_bi (x := (i32 12)) ⟨rfl, rfl⟩ (by decide) ?_
  exact wp_cmp ⟨rfl, rfl⟩ rfl (fun hc => wp_weak (re_sb_nil _) (K1 (ic1_ne hc))) (fun hc => wp_weak (re_sb_nil _) (K2 (ic0_ne hc)))
set_option maxRecDepth 20000 in
theorem L585_339 {SC : List Value} {d s : Nat} {h : re_H} {Q : Nat → Value → re_H → Prop} 
    (K : wp SC 585 d s 364 [] [.int (i32 1)] h Q) : wp SC 585 d s 339 [] [] h Q := by
  refine wp_run 2 (pc' := 364) (lv' := []) (st' := [.int (i32 1)]) rfl ?_
  exact wp_weak (re_sb_nil _) K
set_option maxRecDepth 20000 in
theorem L585_343 {SC : List Value} {d s : Nat} {h : re_H} {Q : Nat → Value → re_H → Prop} 
    (K : wp SC 585 d s 364 [] [.int (i32 0)] h Q) : wp SC 585 d s 343 [] [] h Q := by
  refine wp_run 2 (pc' := 364) (lv' := []) (st' := [.int (i32 0)]) rfl ?_
  exact wp_weak (re_sb_nil _) K
set_option maxRecDepth 20000 in
theorem L585_347 {SC : List Value} {d s : Nat} {h : re_H} {Q : Nat → Value → re_H → Prop} {a2 : Nat} {l8 : Int64}
    {xe1 : Int32} (e2 : nb_ar h a2 100 (i32 1) (.int xe1)) (K1 : ¬ (lg_cmp l8 (xe1 - (i32 1)).toInt64) = 0 → wp SC 585 d s 363 [] [] h Q) (K2 : (lg_cmp l8 (xe1 - (i32 1)).toInt64) = 0 → wp SC 585 d s 359 [] [] h Q) : wp SC 585 d s 347 [(2, .ref a2), (8, .long l8)] [] h Q := by
  refine wp_run 3 (pc' := 351) (lv' := [(2, .ref a2), (8, .long l8)]) (st' := [.int (i32 1), .ref a2, .long l8]) rfl ?_
  obtain ⟨w2, i2, e2a, e2x, e2i, e2v⟩ := e2
  refine wp_ial ⟨rfl, rfl⟩ e2a rfl e2x e2i e2v ?_
  refine wp_run 4 (pc' := 356) (lv' := [(2, .ref a2), (8, .long l8)]) (st' := [.int (lg_cmp l8 (xe1 - (i32 1)).toInt64)]) rfl ?_
  exact wp_if ⟨rfl, rfl⟩ rfl (fun hc => wp_weak (re_sb_nil _) (K1 (ic1_ne hc))) (fun hc => wp_weak (re_sb_nil _) (K2 (ic0_ne hc)))
set_option maxRecDepth 20000 in
theorem L585_359 {SC : List Value} {d s : Nat} {h : re_H} {Q : Nat → Value → re_H → Prop} 
    (K : wp SC 585 d s 364 [] [.int (i32 1)] h Q) : wp SC 585 d s 359 [] [] h Q := by
  refine wp_run 2 (pc' := 364) (lv' := []) (st' := [.int (i32 1)]) rfl ?_
  exact wp_weak (re_sb_nil _) K
set_option maxRecDepth 20000 in
theorem L585_363 {SC : List Value} {d s : Nat} {h : re_H} {Q : Nat → Value → re_H → Prop} 
    (K : wp SC 585 d s 364 [] [.int (i32 0)] h Q) : wp SC 585 d s 363 [] [] h Q := by
  refine wp_run 1 (pc' := 364) (lv' := []) (st' := [.int (i32 0)]) rfl ?_
  exact wp_weak (re_sb_nil _) K
set_option maxRecDepth 20000 in
theorem L585_364 {SC : List Value} {d s : Nat} {h : re_H} {Q : Nat → Value → re_H → Prop} {xs0 : Int32}
    (hz : xs0 = 0 ∨ xs0 = 1) (K : Q 1 (.int xs0) h) : wp SC 585 d s 364 [] [.int xs0] h Q := by
  exact wp_retz ⟨rfl, rfl⟩ rfl hz K
set_option maxRecDepth 20000 in
theorem L585_365 {SC : List Value} {d s : Nat} {h : re_H} {Q : Nat → Value → re_H → Prop} {a0 : Nat} {a1 : Nat} {x4 : Int32} {x5 : Int32} {x6 : Int32} {x7 : Int32}
    (K1 : ¬ x5 < (i32 11) → wp SC 585 d s 449 [(0, .ref a0), (1, .ref a1), (4, .int x4), (7, .int x7)] [] h Q) (K2 : x5 < (i32 11) → wp SC 585 d s 372 [(0, .ref a0), (1, .ref a1), (4, .int x4), (6, .int x6)] [] h Q) : wp SC 585 d s 365 [(0, .ref a0), (1, .ref a1), (4, .int x4), (5, .int x5), (6, .int x6), (7, .int x7)] [] h Q := by
  refine wp_run 1 (pc' := 367) (lv' := [(0, .ref a0), (1, .ref a1), (4, .int x4), (5, .int x5), (6, .int x6), (7, .int x7)]) (st' := [.int x5]) rfl ?_
  refine wp_bi (x := (i32 11)) ⟨rfl, rfl⟩ (by decide) ?_
  exact wp_cmp ⟨rfl, rfl⟩ rfl (fun hc => wp_weak (re_sb_at rfl (re_sb_at rfl (re_sb_at rfl (re_sb_at rfl (re_sb_nil _))))) (K1 (ic1_ge hc))) (fun hc => wp_weak (re_sb_at rfl (re_sb_at rfl (re_sb_at rfl (re_sb_at rfl (re_sb_nil _))))) (K2 (ic0_ge hc)))
set_option maxRecDepth 20000 in
theorem L585_372 {SC : List Value} {d s : Nat} {h : re_H} {Q : Nat → Value → re_H → Prop} {a0 : Nat} {a1 : Nat} {x4 : Int32} {x6 : Int32}
    (K : wp SC 577 d 0 0 [(0, .int (x4 >>> ((i32 7) &&& 31))), (1, .int (i32 3))] [] h (wp_ret SC 585 (d + 1) s 381 [(0, .ref a0), (1, .ref a1), (6, .int x6)] [] Q)) : wp SC 585 (d + 1) s 372 [(0, .ref a0), (1, .ref a1), (4, .int x4), (6, .int x6)] [] h Q := by
  refine wp_run 1 (pc' := 374) (lv' := [(0, .ref a0), (1, .ref a1), (4, .int x4), (6, .int x6)]) (st' := [.int x4]) rfl ?_
  refine wp_bi (x := (i32 7)) ⟨rfl, rfl⟩ (by decide) ?_
  refine wp_run 2 (pc' := 378) (lv' := [(0, .ref a0), (1, .ref a1), (4, .int x4), (6, .int x6)]) (st' := [.int (i32 3), .int (x4 >>> ((i32 7) &&& 31))]) rfl ?_
  have eA : lv_args 0 ([.int (i32 3), .int (x4 >>> ((i32 7) &&& 31))].reverse) = [(0, .int (x4 >>> ((i32 7) &&& 31))), (1, .int (i32 3))] := by simp [lv_args, vc_i, vc_l, vc_r, vc_n, vc_a]
  refine wp_callS (ar := [.int (i32 3), .int (x4 >>> ((i32 7) &&& 31))]) (rest := []) (s1 := 0) (s2 := s) (d' := d) ⟨rfl, rfl⟩ rfl (Or.inl rfl) rfl (by simp [re_cat, vc_i, vc_l, vc_r, vc_n, vc_a]) (by rw [show re_cat ([.int (i32 3), .int (x4 >>> ((i32 7) &&& 31))].reverse) = 2 from by simp [re_cat, vc_i, vc_l, vc_r, vc_n, vc_a]]; decide) (by decide) rfl rfl (Nat.le_of_eq (Nat.zero_add s)) ?_
  rw [eA]
  exact wp_mono K (fun k v h' z => wp_ret_weak (re_sb_at rfl (re_sb_at rfl (re_sb_at rfl (re_sb_nil _)))) z)
set_option maxRecDepth 20000 in
theorem L585_381 {SC : List Value} {d s : Nat} {h : re_H} {Q : Nat → Value → re_H → Prop} {a0 : Nat} {a1 : Nat} {x6 : Int32} {xs0 : Int32}
    (K1 : ¬ 0 < xs0 → wp SC 585 d s 390 [(0, .ref a0), (1, .ref a1), (6, .int x6)] [] h Q) (K2 : 0 < xs0 → wp SC 585 d s 384 [(0, .ref a0), (6, .int x6)] [] h Q) : wp SC 585 d s 381 [(0, .ref a0), (1, .ref a1), (6, .int x6)] [.int xs0] h Q := by
  exact wp_if ⟨rfl, rfl⟩ rfl (fun hc => wp_weak (re_sb_at rfl (re_sb_at rfl (re_sb_at rfl (re_sb_nil _)))) (K1 (ic1_le hc))) (fun hc => wp_weak (re_sb_at rfl (re_sb_at rfl (re_sb_nil _))) (K2 (ic0_le hc)))
set_option maxRecDepth 20000 in
theorem L585_384 {SC : List Value} {d s : Nat} {h : re_H} {Q : Nat → Value → re_H → Prop} {a0 : Nat} {x6 : Int32}
    (K : wp SC 585 d s 400 [(0, .ref a0), (6, .int x6)] [.long (-2000000001)] h Q) : wp SC 585 d s 384 [(0, .ref a0), (6, .int x6)] [] h Q := by
  refine wp_cst (pc' := 387) (v := .long (-2000000001)) ⟨rfl, rfl⟩ rfl rfl rfl rfl rfl ?_
  refine wp_run 1 (pc' := 400) (lv' := [(0, .ref a0), (6, .int x6)]) (st' := [.long (-2000000001)]) rfl ?_
  exact wp_weak (re_sb_at rfl (re_sb_at rfl (re_sb_nil _))) K
set_option maxRecDepth 20000 in
theorem L585_390 {SC : List Value} {d s : Nat} {h : re_H} {Q : Nat → Value → re_H → Prop} {a0 : Nat} {a1 : Nat} {x6 : Int32}
    {s1 s2 : Nat} (hs : s1 + s2 ≤ s) (K : wp SC 581 d s1 0 [(0, .ref a0), (1, .ref a1), (2, .int (i32 12)), (3, .int x6), (4, .int (i32 0))] [] h (wp_ret SC 585 (d + 1) s2 400 [(0, .ref a0), (6, .int x6)] [] Q)) : wp SC 585 (d + 1) s 390 [(0, .ref a0), (1, .ref a1), (6, .int x6)] [] h Q := by
  refine wp_run 2 (pc' := 392) (lv' := [(0, .ref a0), (1, .ref a1), (6, .int x6)]) (st' := [.ref a1, .ref a0]) rfl ?_
  refine wp_bi (x := (i32 12)) ⟨rfl, rfl⟩ (by decide) ?_
  refine wp_run 2 (pc' := 397) (lv' := [(0, .ref a0), (1, .ref a1), (6, .int x6)]) (st' := [.int (i32 0), .int x6, .int (i32 12), .ref a1, .ref a0]) rfl ?_
  have eA : lv_args 0 ([.int (i32 0), .int x6, .int (i32 12), .ref a1, .ref a0].reverse) = [(0, .ref a0), (1, .ref a1), (2, .int (i32 12)), (3, .int x6), (4, .int (i32 0))] := by simp [lv_args, vc_i, vc_l, vc_r, vc_n, vc_a]
  refine wp_callS (ar := [.int (i32 0), .int x6, .int (i32 12), .ref a1, .ref a0]) (rest := []) (s1 := s1) (s2 := s2) (d' := d) ⟨rfl, rfl⟩ rfl (Or.inl rfl) rfl (by simp [re_cat, vc_i, vc_l, vc_r, vc_n, vc_a]) (by rw [show re_cat ([.int (i32 0), .int x6, .int (i32 12), .ref a1, .ref a0].reverse) = 5 from by simp [re_cat, vc_i, vc_l, vc_r, vc_n, vc_a]]; decide) (by decide) rfl rfl hs ?_
  rw [eA]
  exact wp_mono K (fun k v h' z => wp_ret_weak (re_sb_at rfl (re_sb_at rfl (re_sb_nil _))) z)
set_option maxRecDepth 20000 in
theorem L585_400 {SC : List Value} {d s : Nat} {h : re_H} {Q : Nat → Value → re_H → Prop} {a0 : Nat} {x6 : Int32} {ls0 : Int64}
    (K1 : ls0 = (-2000000001) → wp SC 585 d s 443 [] [] h Q) (K2 : ¬ ls0 = (-2000000001) → wp SC 585 d s 411 [(0, .ref a0), (6, .int x6), (8, .long ls0)] [] h Q) : wp SC 585 d s 400 [(0, .ref a0), (6, .int x6)] [.long ls0] h Q := by
  refine wp_run 2 (pc' := 404) (lv' := [(8, .long ls0), (0, .ref a0), (6, .int x6)]) (st' := [.long ls0]) rfl ?_
  refine wp_cst (pc' := 407) (v := .long (-2000000001)) ⟨rfl, rfl⟩ rfl rfl rfl rfl rfl ?_
  refine wp_run 1 (pc' := 408) (lv' := [(8, .long ls0), (0, .ref a0), (6, .int x6)]) (st' := [.int (lg_cmp ls0 (-2000000001))]) rfl ?_
  exact wp_if ⟨rfl, rfl⟩ rfl (fun hc => wp_weak (re_sb_nil _) (K1 (lc1_eq hc))) (fun hc => wp_weak (re_sb_at rfl (re_sb_at rfl (re_sb_at rfl (re_sb_nil _)))) (K2 (lc0_eq hc)))
set_option maxRecDepth 20000 in
theorem L585_411 {SC : List Value} {d s : Nat} {h : re_H} {Q : Nat → Value → re_H → Prop} {a0 : Nat} {x6 : Int32} {l8 : Int64}
    (K1 : l8 < (0) → wp SC 585 d s 447 [] [] h Q) (K2 : ¬ l8 < (0) → wp SC 585 d s 418 [(0, .ref a0), (6, .int x6), (8, .long l8)] [] h Q) : wp SC 585 d s 411 [(0, .ref a0), (6, .int x6), (8, .long l8)] [] h Q := by
  refine wp_run 3 (pc' := 415) (lv' := [(0, .ref a0), (6, .int x6), (8, .long l8)]) (st' := [.int (lg_cmp l8 (0))]) rfl ?_
  exact wp_if ⟨rfl, rfl⟩ rfl (fun hc => wp_weak (re_sb_nil _) (K1 (lc1_lt hc))) (fun hc => wp_weak (re_sb_at rfl (re_sb_at rfl (re_sb_at rfl (re_sb_nil _)))) (K2 (lc0_lt hc)))
set_option maxRecDepth 20000 in
theorem L585_418 {SC : List Value} {d s : Nat} {h : re_H} {Q : Nat → Value → re_H → Prop} {a0 : Nat} {x6 : Int32} {l8 : Int64}
    (K1 : ¬ l8 < (12) → wp SC 585 d s 447 [] [] h Q) (K2 : l8 < (12) → wp SC 585 d s 427 [(0, .ref a0), (6, .int x6)] [] h Q) : wp SC 585 d s 418 [(0, .ref a0), (6, .int x6), (8, .long l8)] [] h Q := by
  refine wp_run 1 (pc' := 420) (lv' := [(0, .ref a0), (6, .int x6), (8, .long l8)]) (st' := [.long l8]) rfl ?_
  refine wp_cst (pc' := 423) (v := .long (12)) ⟨rfl, rfl⟩ rfl rfl rfl rfl rfl ?_
  refine wp_run 1 (pc' := 424) (lv' := [(0, .ref a0), (6, .int x6), (8, .long l8)]) (st' := [.int (lg_cmp l8 (12))]) rfl ?_
  exact wp_if ⟨rfl, rfl⟩ rfl (fun hc => wp_weak (re_sb_nil _) (K1 (lc1_ge hc))) (fun hc => wp_weak (re_sb_at rfl (re_sb_at rfl (re_sb_nil _))) (K2 (lc0_ge hc)))
set_option maxRecDepth 20000 in
theorem L585_427 {SC : List Value} {d s : Nat} {h : re_H} {Q : Nat → Value → re_H → Prop} {a0 : Nat} {x6 : Int32}
    {s1 s2 : Nat} (hs : s1 + s2 ≤ s) (K : wp SC 579 d s1 0 [(0, .ref a0), (1, .int (i32 21)), (2, .int x6), (3, .int (i32 0))] [] h (wp_ret SC 585 (d + 1) s2 436 [] [] Q)) : wp SC 585 (d + 1) s 427 [(0, .ref a0), (6, .int x6)] [] h Q := by
  refine wp_run 1 (pc' := 428) (lv' := [(0, .ref a0), (6, .int x6)]) (st' := [.ref a0]) rfl ?_
  refine wp_bi (x := (i32 21)) ⟨rfl, rfl⟩ (by decide) ?_
  refine wp_run 2 (pc' := 433) (lv' := [(0, .ref a0), (6, .int x6)]) (st' := [.int (i32 0), .int x6, .int (i32 21), .ref a0]) rfl ?_
  have eA : lv_args 0 ([.int (i32 0), .int x6, .int (i32 21), .ref a0].reverse) = [(0, .ref a0), (1, .int (i32 21)), (2, .int x6), (3, .int (i32 0))] := by simp [lv_args, vc_i, vc_l, vc_r, vc_n, vc_a]
  refine wp_callS (ar := [.int (i32 0), .int x6, .int (i32 21), .ref a0]) (rest := []) (s1 := s1) (s2 := s2) (d' := d) ⟨rfl, rfl⟩ rfl (Or.inr (Or.inr rfl)) rfl (by simp [re_cat, vc_i, vc_l, vc_r, vc_n, vc_a]) (by rw [show re_cat ([.int (i32 0), .int x6, .int (i32 21), .ref a0].reverse) = 4 from by simp [re_cat, vc_i, vc_l, vc_r, vc_n, vc_a]]; decide) (by decide) rfl rfl hs ?_
  rw [eA]
  exact wp_mono K (fun k v h' z => wp_ret_weak (re_sb_nil _) z)
set_option maxRecDepth 20000 in
theorem L585_436 {SC : List Value} {d s : Nat} {h : re_H} {Q : Nat → Value → re_H → Prop} {ls0 : Int64}
    (K1 : ¬ ls0 = (-2000000001) → wp SC 585 d s 447 [] [] h Q) (K2 : ls0 = (-2000000001) → wp SC 585 d s 443 [] [] h Q) : wp SC 585 d s 436 [] [.long ls0] h Q := by
  refine wp_cst (pc' := 439) (v := .long (-2000000001)) ⟨rfl, rfl⟩ rfl rfl rfl rfl rfl ?_
  refine wp_run 1 (pc' := 440) (lv' := []) (st' := [.int (lg_cmp ls0 (-2000000001))]) rfl ?_
  exact wp_if ⟨rfl, rfl⟩ rfl (fun hc => wp_weak (re_sb_nil _) (K1 (lc1_ne hc))) (fun hc => wp_weak (re_sb_nil _) (K2 (lc0_ne hc)))
set_option maxRecDepth 20000 in
theorem L585_443 {SC : List Value} {d s : Nat} {h : re_H} {Q : Nat → Value → re_H → Prop} 
    (K : wp SC 585 d s 448 [] [.int (i32 1)] h Q) : wp SC 585 d s 443 [] [] h Q := by
  refine wp_run 2 (pc' := 448) (lv' := []) (st' := [.int (i32 1)]) rfl ?_
  exact wp_weak (re_sb_nil _) K
set_option maxRecDepth 20000 in
theorem L585_447 {SC : List Value} {d s : Nat} {h : re_H} {Q : Nat → Value → re_H → Prop} 
    (K : wp SC 585 d s 448 [] [.int (i32 0)] h Q) : wp SC 585 d s 447 [] [] h Q := by
  refine wp_run 1 (pc' := 448) (lv' := []) (st' := [.int (i32 0)]) rfl ?_
  exact wp_weak (re_sb_nil _) K
set_option maxRecDepth 20000 in
theorem L585_448 {SC : List Value} {d s : Nat} {h : re_H} {Q : Nat → Value → re_H → Prop} {xs0 : Int32}
    (hz : xs0 = 0 ∨ xs0 = 1) (K : Q 1 (.int xs0) h) : wp SC 585 d s 448 [] [.int xs0] h Q := by
  exact wp_retz ⟨rfl, rfl⟩ rfl hz K
set_option maxRecDepth 20000 in
theorem L585_449 {SC : List Value} {d s : Nat} {h : re_H} {Q : Nat → Value → re_H → Prop} {a0 : Nat} {a1 : Nat} {x4 : Int32} {x7 : Int32}
    (K : wp SC 577 d 0 0 [(0, .int (x4 >>> ((i32 7) &&& 31))), (1, .int (i32 6))] [] h (wp_ret SC 585 (d + 1) s 465 [(0, .ref a0), (7, .int x7)] [.int x7, .int (i32 13), .ref a1, .ref a0] Q)) : wp SC 585 (d + 1) s 449 [(0, .ref a0), (1, .ref a1), (4, .int x4), (7, .int x7)] [] h Q := by
  refine wp_run 2 (pc' := 451) (lv' := [(0, .ref a0), (1, .ref a1), (4, .int x4), (7, .int x7)]) (st' := [.ref a1, .ref a0]) rfl ?_
  refine wp_bi (x := (i32 13)) ⟨rfl, rfl⟩ (by decide) ?_
  refine wp_run 2 (pc' := 457) (lv' := [(0, .ref a0), (1, .ref a1), (4, .int x4), (7, .int x7)]) (st' := [.int x4, .int x7, .int (i32 13), .ref a1, .ref a0]) rfl ?_
  refine wp_bi (x := (i32 7)) ⟨rfl, rfl⟩ (by decide) ?_
  refine wp_run 1 (pc' := 460) (lv' := [(0, .ref a0), (1, .ref a1), (4, .int x4), (7, .int x7)]) (st' := [.int (x4 >>> ((i32 7) &&& 31)), .int x7, .int (i32 13), .ref a1, .ref a0]) rfl ?_
  refine wp_bi (x := (i32 6)) ⟨rfl, rfl⟩ (by decide) ?_
  have eA : lv_args 0 ([.int (i32 6), .int (x4 >>> ((i32 7) &&& 31))].reverse) = [(0, .int (x4 >>> ((i32 7) &&& 31))), (1, .int (i32 6))] := by simp [lv_args, vc_i, vc_l, vc_r, vc_n, vc_a]
  refine wp_callS (ar := [.int (i32 6), .int (x4 >>> ((i32 7) &&& 31))]) (rest := [.int x7, .int (i32 13), .ref a1, .ref a0]) (s1 := 0) (s2 := s) (d' := d) ⟨rfl, rfl⟩ rfl (Or.inl rfl) rfl (by simp [re_cat, vc_i, vc_l, vc_r, vc_n, vc_a]) (by rw [show re_cat ([.int (i32 6), .int (x4 >>> ((i32 7) &&& 31))].reverse) = 2 from by simp [re_cat, vc_i, vc_l, vc_r, vc_n, vc_a]]; decide) (by decide) rfl rfl (Nat.le_of_eq (Nat.zero_add s)) ?_
  rw [eA]
  exact wp_mono K (fun k v h' z => wp_ret_weak (re_sb_at rfl (re_sb_at rfl (re_sb_nil _))) z)
set_option maxRecDepth 20000 in
theorem L585_465 {SC : List Value} {d s : Nat} {h : re_H} {Q : Nat → Value → re_H → Prop} {a0 : Nat} {x7 : Int32} {xs0 : Int32} {xs1 : Int32} {xs2 : Int32} {as3 : Nat} {as4 : Nat}
    {s1 s2 : Nat} (hs : s1 + s2 ≤ s) (K : wp SC 581 d s1 0 [(0, .ref as4), (1, .ref as3), (2, .int xs2), (3, .int xs1), (4, .int xs0)] [] h (wp_ret SC 585 (d + 1) s2 468 [(0, .ref a0), (7, .int x7)] [] Q)) : wp SC 585 (d + 1) s 465 [(0, .ref a0), (7, .int x7)] [.int xs0, .int xs1, .int xs2, .ref as3, .ref as4] h Q := by
  have eA : lv_args 0 ([.int xs0, .int xs1, .int xs2, .ref as3, .ref as4].reverse) = [(0, .ref as4), (1, .ref as3), (2, .int xs2), (3, .int xs1), (4, .int xs0)] := by simp [lv_args, vc_i, vc_l, vc_r, vc_n, vc_a]
  refine wp_callS (ar := [.int xs0, .int xs1, .int xs2, .ref as3, .ref as4]) (rest := []) (s1 := s1) (s2 := s2) (d' := d) ⟨rfl, rfl⟩ rfl (Or.inl rfl) rfl (by simp [re_cat, vc_i, vc_l, vc_r, vc_n, vc_a]) (by rw [show re_cat ([.int xs0, .int xs1, .int xs2, .ref as3, .ref as4].reverse) = 5 from by simp [re_cat, vc_i, vc_l, vc_r, vc_n, vc_a]]; decide) (by decide) rfl rfl hs ?_
  rw [eA]
  exact wp_mono K (fun k v h' z => wp_ret_weak (re_sb_at rfl (re_sb_at rfl (re_sb_nil _))) z)
set_option maxRecDepth 20000 in
theorem L585_468 {SC : List Value} {d s : Nat} {h : re_H} {Q : Nat → Value → re_H → Prop} {a0 : Nat} {x7 : Int32} {ls0 : Int64}
    (K1 : ls0 = (-2000000003) → wp SC 585 d s 510 [] [] h Q) (K2 : ¬ ls0 = (-2000000003) → wp SC 585 d s 479 [(0, .ref a0), (7, .int x7), (8, .long ls0)] [] h Q) : wp SC 585 d s 468 [(0, .ref a0), (7, .int x7)] [.long ls0] h Q := by
  refine wp_run 2 (pc' := 472) (lv' := [(8, .long ls0), (0, .ref a0), (7, .int x7)]) (st' := [.long ls0]) rfl ?_
  refine wp_cst (pc' := 475) (v := .long (-2000000003)) ⟨rfl, rfl⟩ rfl rfl rfl rfl rfl ?_
  refine wp_run 1 (pc' := 476) (lv' := [(8, .long ls0), (0, .ref a0), (7, .int x7)]) (st' := [.int (lg_cmp ls0 (-2000000003))]) rfl ?_
  exact wp_if ⟨rfl, rfl⟩ rfl (fun hc => wp_weak (re_sb_nil _) (K1 (lc1_eq hc))) (fun hc => wp_weak (re_sb_at rfl (re_sb_at rfl (re_sb_at rfl (re_sb_nil _)))) (K2 (lc0_eq hc)))
set_option maxRecDepth 20000 in
theorem L585_479 {SC : List Value} {d s : Nat} {h : re_H} {Q : Nat → Value → re_H → Prop} {a0 : Nat} {x7 : Int32} {l8 : Int64}
    (K1 : l8 < (0) → wp SC 585 d s 514 [] [] h Q) (K2 : ¬ l8 < (0) → wp SC 585 d s 486 [(0, .ref a0), (7, .int x7), (8, .long l8)] [] h Q) : wp SC 585 d s 479 [(0, .ref a0), (7, .int x7), (8, .long l8)] [] h Q := by
  refine wp_run 3 (pc' := 483) (lv' := [(0, .ref a0), (7, .int x7), (8, .long l8)]) (st' := [.int (lg_cmp l8 (0))]) rfl ?_
  exact wp_if ⟨rfl, rfl⟩ rfl (fun hc => wp_weak (re_sb_nil _) (K1 (lc1_lt hc))) (fun hc => wp_weak (re_sb_at rfl (re_sb_at rfl (re_sb_at rfl (re_sb_nil _)))) (K2 (lc0_lt hc)))
set_option maxRecDepth 20000 in
theorem L585_486 {SC : List Value} {d s : Nat} {h : re_H} {Q : Nat → Value → re_H → Prop} {a0 : Nat} {x7 : Int32} {l8 : Int64}
    (K1 : l8 = (0) → wp SC 585 d s 510 [] [] h Q) (K2 : ¬ l8 = (0) → wp SC 585 d s 493 [(0, .ref a0), (7, .int x7)] [] h Q) : wp SC 585 d s 486 [(0, .ref a0), (7, .int x7), (8, .long l8)] [] h Q := by
  refine wp_run 3 (pc' := 490) (lv' := [(0, .ref a0), (7, .int x7), (8, .long l8)]) (st' := [.int (lg_cmp l8 (0))]) rfl ?_
  exact wp_if ⟨rfl, rfl⟩ rfl (fun hc => wp_weak (re_sb_nil _) (K1 (lc1_eq hc))) (fun hc => wp_weak (re_sb_at rfl (re_sb_at rfl (re_sb_nil _))) (K2 (lc0_eq hc)))
set_option maxRecDepth 20000 in
theorem L585_493 {SC : List Value} {d s : Nat} {h : re_H} {Q : Nat → Value → re_H → Prop} {a0 : Nat} {x7 : Int32}
    {s1 s2 : Nat} (hs : s1 + s2 ≤ s) (K : wp SC 579 d s1 0 [(0, .ref a0), (1, .int (i32 13)), (2, .int x7), (3, .int x7)] [] h (wp_ret SC 585 (d + 1) s2 503 [] [] Q)) : wp SC 585 (d + 1) s 493 [(0, .ref a0), (7, .int x7)] [] h Q := by
  refine wp_run 1 (pc' := 494) (lv' := [(0, .ref a0), (7, .int x7)]) (st' := [.ref a0]) rfl ?_
  refine wp_bi (x := (i32 13)) ⟨rfl, rfl⟩ (by decide) ?_
  refine wp_run 2 (pc' := 500) (lv' := [(0, .ref a0), (7, .int x7)]) (st' := [.int x7, .int x7, .int (i32 13), .ref a0]) rfl ?_
  have eA : lv_args 0 ([.int x7, .int x7, .int (i32 13), .ref a0].reverse) = [(0, .ref a0), (1, .int (i32 13)), (2, .int x7), (3, .int x7)] := by simp [lv_args, vc_i, vc_l, vc_r, vc_n, vc_a]
  refine wp_callS (ar := [.int x7, .int x7, .int (i32 13), .ref a0]) (rest := []) (s1 := s1) (s2 := s2) (d' := d) ⟨rfl, rfl⟩ rfl (Or.inr (Or.inr rfl)) rfl (by simp [re_cat, vc_i, vc_l, vc_r, vc_n, vc_a]) (by rw [show re_cat ([.int x7, .int x7, .int (i32 13), .ref a0].reverse) = 4 from by simp [re_cat, vc_i, vc_l, vc_r, vc_n, vc_a]]; decide) (by decide) rfl rfl hs ?_
  rw [eA]
  exact wp_mono K (fun k v h' z => wp_ret_weak (re_sb_nil _) z)
set_option maxRecDepth 20000 in
theorem L585_503 {SC : List Value} {d s : Nat} {h : re_H} {Q : Nat → Value → re_H → Prop} {ls0 : Int64}
    (K1 : ¬ ls0 = (-2000000003) → wp SC 585 d s 514 [] [] h Q) (K2 : ls0 = (-2000000003) → wp SC 585 d s 510 [] [] h Q) : wp SC 585 d s 503 [] [.long ls0] h Q := by
  refine wp_cst (pc' := 506) (v := .long (-2000000003)) ⟨rfl, rfl⟩ rfl rfl rfl rfl rfl ?_
  refine wp_run 1 (pc' := 507) (lv' := []) (st' := [.int (lg_cmp ls0 (-2000000003))]) rfl ?_
  exact wp_if ⟨rfl, rfl⟩ rfl (fun hc => wp_weak (re_sb_nil _) (K1 (lc1_ne hc))) (fun hc => wp_weak (re_sb_nil _) (K2 (lc0_ne hc)))
set_option maxRecDepth 20000 in
theorem L585_510 {SC : List Value} {d s : Nat} {h : re_H} {Q : Nat → Value → re_H → Prop} 
    (K : wp SC 585 d s 515 [] [.int (i32 1)] h Q) : wp SC 585 d s 510 [] [] h Q := by
  refine wp_run 2 (pc' := 515) (lv' := []) (st' := [.int (i32 1)]) rfl ?_
  exact wp_weak (re_sb_nil _) K
set_option maxRecDepth 20000 in
theorem L585_514 {SC : List Value} {d s : Nat} {h : re_H} {Q : Nat → Value → re_H → Prop} 
    (K : wp SC 585 d s 515 [] [.int (i32 0)] h Q) : wp SC 585 d s 514 [] [] h Q := by
  refine wp_run 1 (pc' := 515) (lv' := []) (st' := [.int (i32 0)]) rfl ?_
  exact wp_weak (re_sb_nil _) K
set_option maxRecDepth 20000 in
theorem L585_515 {SC : List Value} {d s : Nat} {h : re_H} {Q : Nat → Value → re_H → Prop} {xs0 : Int32}
    (hz : xs0 = 0 ∨ xs0 = 1) (K : Q 1 (.int xs0) h) : wp SC 585 d s 515 [] [.int xs0] h Q := by
  exact wp_retz ⟨rfl, rfl⟩ rfl hz K
