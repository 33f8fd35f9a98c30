theorem B1_0 {SC : List Value} {d s : Nat} {h : re_H} {Q : Nat → Value → re_H → Prop} {a0 : Nat} {l1 : Int64}
    {c : Nat} {w : List Value} (eg : re_hg h a0 = some (c, w)) (ec : c = 0) {s1 s2 : Nat} (hs : s1 + s2 ≤ s) (K : wp SC 2 d s1 0 [(0, .ref a0)] [] h (wp_ret SC 1 (d + 1) s2 4 [(0, .ref a0), (1, .long l1)] [] Q)) : wp SC 1 (d + 1) s 0 [(0, .ref a0), (1, .long l1)] [] h Q := by
  refine wp_run 1 (pc' := 1) (lv' := [(0, .ref a0), (1, .long l1)]) (st' := [.ref a0]) rfl ?_
  have eA : lv_args 0 (.ref a0 :: [].reverse) = [(0, .ref a0)] := by simp [lv_args, vc_i, vc_l, vc_r, vc_n, vc_a]
  refine wp_callV (ar := []) (rest := []) (s1 := s1) (s2 := s2) (d' := d) ⟨rfl, rfl⟩ rfl (Or.inl rfl)  (by simp [re_cat, vc_i, vc_l, vc_r, vc_n, vc_a]) (by rw [show re_cat (.ref a0 :: [].reverse) = 1 from by simp [re_cat, vc_i, vc_l, vc_r, vc_n, vc_a]]; decide) (by decide) rfl eg ec rfl hs ?_
  rw [eA]
  exact wp_mono K (fun k v h' z => wp_ret_weak (re_sb_at rfl (re_sb_at rfl (re_sb_nil _))) z)
theorem B1_4 {SC : List Value} {d s : Nat} {h : re_H} {Q : Nat → Value → re_H → Prop} {a0 : Nat} {l1 : Int64}
    (K : wp SC 1 d s 8 [(1, .long l1)] [.ref h.1, .ref a0] (re_hq h (9, [.int 0, .int 0, .long 0, .null, .null, .null, .int 0, .int 0, .int 0, .int 0, .int 0])) Q) : wp SC 1 d s 4 [(0, .ref a0), (1, .long l1)] [] h Q := by
  refine wp_run 1 (pc' := 5) (lv' := [(0, .ref a0), (1, .long l1)]) (st' := [.ref a0]) rfl ?_
  exact wp_new (vs := [.int 0, .int 0, .long 0, .null, .null, .null, .int 0, .int 0, .int 0, .int 0, .int 0]) ⟨rfl, rfl⟩ rfl (by decide) (by decide) (wp_weak (re_sb_at rfl (re_sb_nil _)) K)
theorem B1_8 {SC : List Value} {d s : Nat} {h : re_H} {Q : Nat → Value → re_H → Prop} {l1 : Int64} {as0 : Nat} {as1 : Nat}
    {c : Nat} {w : List Value} (eg : re_hg h as0 = some (c, w)) (ec : c = 9) (K : wp SC 640 d 0 0 [(0, .ref as0), (1, .int (i32 0)), (2, .int (i32 0)), (3, .long l1), (5, .null), (6, .null), (7, .null)] [] h (wp_ret SC 1 (d + 1) s 18 [] [.ref as0, .ref as1] Q)) : wp SC 1 (d + 1) s 8 [(1, .long l1)] [.ref as0, .ref as1] h Q := by
  refine wp_run 7 (pc' := 15) (lv' := [(1, .long l1)]) (st' := [.null, .null, .null, .long l1, .int (i32 0), .int (i32 0), .ref as0, .ref as0, .ref as1]) rfl ?_
  have eA : lv_args 0 (.ref as0 :: [.null, .null, .null, .long l1, .int (i32 0), .int (i32 0)].reverse) = [(0, .ref as0), (1, .int (i32 0)), (2, .int (i32 0)), (3, .long l1), (5, .null), (6, .null), (7, .null)] := by simp [lv_args, vc_i, vc_l, vc_r, vc_n, vc_a]
  refine wp_callI (ar := [.null, .null, .null, .long l1, .int (i32 0), .int (i32 0)]) (rest := [.ref as0, .ref as1]) (s1 := 0) (s2 := s) (d' := d) ⟨rfl, rfl⟩ rfl (Or.inl rfl)  (by simp [re_cat, vc_i, vc_l, vc_r, vc_n, vc_a]) (by rw [show re_cat (.ref as0 :: [.null, .null, .null, .long l1, .int (i32 0), .int (i32 0)].reverse) = 8 from by simp [re_cat, vc_i, vc_l, vc_r, vc_n, vc_a]]; decide) (by decide) rfl eg ec rfl (Nat.le_of_eq (Nat.zero_add s)) ?_
  rw [eA]
  exact wp_mono K (fun k v h' z => wp_ret_weak (re_sb_nil _) z)
theorem B1_18 {SC : List Value} {d s : Nat} {h : re_H} {Q : Nat → Value → re_H → Prop} {as0 : Nat} {as1 : Nat}
    {c : Nat} {w : List Value} (eg : re_hg h as1 = some (c, w)) (ec : c = 0) (K : wp SC 3 d 0 0 [(0, .ref as1), (1, .ref as0)] [] h (wp_ret SC 1 (d + 1) s 21 [] [] Q)) : wp SC 1 (d + 1) s 18 [] [.ref as0, .ref as1] h Q := by
  have eA : lv_args 0 (.ref as1 :: [.ref as0].reverse) = [(0, .ref as1), (1, .ref as0)] := by simp [lv_args, vc_i, vc_l, vc_r, vc_n, vc_a]
  refine wp_callV (ar := [.ref as0]) (rest := []) (s1 := 0) (s2 := s) (d' := d) ⟨rfl, rfl⟩ rfl (Or.inl rfl)  (by simp [re_cat, vc_i, vc_l, vc_r, vc_n, vc_a]) (by rw [show re_cat (.ref as1 :: [.ref as0].reverse) = 2 from by simp [re_cat, vc_i, vc_l, vc_r, vc_n, vc_a]]; decide) (by decide) rfl eg ec rfl (Nat.le_of_eq (Nat.zero_add s)) ?_
  rw [eA]
  exact wp_mono K (fun k v h' z => wp_ret_weak (re_sb_nil _) z)
theorem B1_21 {SC : List Value} {d s : Nat} {h : re_H} {Q : Nat → Value → re_H → Prop} {xs0 : Int32}
    (K : Q 1 (.int xs0) h) : wp SC 1 d s 21 [] [.int xs0] h Q := by
  exact wp_reti ⟨rfl, rfl⟩ rfl K
theorem B2_0 {SC : List Value} {d s : Nat} {h : re_H} {Q : Nat → Value → re_H → Prop} {a0 : Nat}
    {xe1 : Int32} (e2 : nb_fd h a0 0 1 (.int xe1)) (K1 : xe1 < (i32 20) → wp SC 2 d s 20 [] [] h Q) (K2 : ¬ xe1 < (i32 20) → wp SC 2 d s 9 [] [] h Q) : wp SC 2 d s 0 [(0, .ref a0)] [] h Q := by
  refine wp_run 1 (pc' := 1) (lv' := [(0, .ref a0)]) (st' := [.ref a0]) rfl ?_
  obtain ⟨w2, e2a, e2b⟩ := e2
  refine wp_gf ⟨rfl, rfl⟩ rfl e2a e2b ?_
  refine wp_bi (x := (i32 20)) ⟨rfl, rfl⟩ (by decide) ?_
  exact wp_cmp ⟨rfl, rfl⟩ rfl (fun hc => wp_weak (re_sb_nil _) (K1 (ic1_lt hc))) (fun hc => wp_weak (re_sb_nil _) (K2 (ic0_lt hc)))
theorem B2_9 {SC : List Value} {d s : Nat} {h : re_H} {Q : Nat → Value → re_H → Prop} 
    (hs : 0 < s) (K : Q 4 .null h) : wp SC 2 d s 9 [] [] h Q := by
  exact wp_throw rfl hs (by simp [re_cat, vc_i, vc_l, vc_r, vc_n, vc_a]) K
theorem B2_20 {SC : List Value} {d s : Nat} {h : re_H} {Q : Nat → Value → re_H → Prop} 
    (K : Q 0 .null h) : wp SC 2 d s 20 [] [] h Q := by
  exact wp_retv ⟨rfl, rfl⟩ rfl K
theorem B3_0 {SC : List Value} {d s : Nat} {h : re_H} {Q : Nat → Value → re_H → Prop} {a0 : Nat} {v1 : Value} (r1 : re_R v1)
    {xe1 : Int32} (e2 : nb_fd h a0 0 1 (.int xe1)) (K1 : ¬ xe1 < (i32 20) → wp SC 3 d s 26 [(0, .ref a0)] [] h Q) (K2 : xe1 < (i32 20) → wp SC 3 d s 9 [(0, .ref a0), (1, v1)] [] h Q) : wp SC 3 d s 0 [(0, .ref a0), (1, v1)] [] h Q := by
  refine wp_run 1 (pc' := 1) (lv' := [(0, .ref a0), (1, v1)]) (st' := [.ref a0]) rfl ?_
  obtain ⟨w2, e2a, e2b⟩ := e2
  refine wp_gf ⟨rfl, rfl⟩ rfl e2a e2b ?_
  refine wp_bi (x := (i32 20)) ⟨rfl, rfl⟩ (by decide) ?_
  exact wp_cmp ⟨rfl, rfl⟩ rfl (fun hc => wp_weak (re_sb_at rfl (re_sb_nil _)) (K1 (ic1_ge hc))) (fun hc => wp_weak (re_sb_at rfl (re_sb_at rfl (re_sb_nil _))) (K2 (ic0_ge hc)))
theorem B3_9 {SC : List Value} {d s : Nat} {h : re_H} {Q : Nat → Value → re_H → Prop} {a0 : Nat} {v1 : Value} (r1 : re_R v1)
    {ae1 : Nat} (e2 : nb_fd h a0 0 0 (.ref ae1)) {xe3 : Int32} (e4 : nb_fd h a0 0 1 (.int xe3)) {w : List Value} (e : re_hg h a0 = some (0, w)) (hk : 1 < w.length) (K : wp SC 3 d s 24 [(0, .ref a0), (1, v1)] [.int xe3, .ref ae1] (re_hw h a0 (0, w.set 1 (.int (xe3 + (i32 1))))) Q) : wp SC 3 d s 9 [(0, .ref a0), (1, v1)] [] h Q := by
  refine wp_run 1 (pc' := 10) (lv' := [(0, .ref a0), (1, v1)]) (st' := [.ref a0]) rfl ?_
  obtain ⟨w2, e2a, e2b⟩ := e2
  refine wp_gf ⟨rfl, rfl⟩ rfl e2a e2b ?_
  refine wp_run 2 (pc' := 15) (lv' := [(0, .ref a0), (1, v1)]) (st' := [.ref a0, .ref a0, .ref ae1]) rfl ?_
  obtain ⟨w4, e4a, e4b⟩ := e4
  refine wp_gf ⟨rfl, rfl⟩ rfl e4a e4b ?_
  refine wp_run 3 (pc' := 21) (lv' := [(0, .ref a0), (1, v1)]) (st' := [.int (xe3 + (i32 1)), .ref a0, .int xe3, .ref ae1]) rfl ?_
  exact wp_pf ⟨rfl, rfl⟩ rfl (Or.inl rfl) e hk (fit_i _) (wp_weak (re_sb_at rfl (re_sb_at rfl (re_sb_nil _))) K)
theorem B3_24 {SC : List Value} {d s : Nat} {h : re_H} {Q : Nat → Value → re_H → Prop} {a0 : Nat} {v1 : Value} (r1 : re_R v1) {xs0 : Int32} {as1 : Nat}
    {w : List Value} {i : Nat} (e : re_hg h as1 = some (103, w)) (hx : xs0 = i32 i) (hi : i < 2147483648) (hl : i < w.length) (hv : v1 = .null ∨ ∃ (b : Nat) (ws : List Value), v1 = .ref b ∧ re_hg h b = some (9, ws)) (K : wp SC 3 d s 26 [(0, .ref a0)] [] (re_hw h as1 (103, w.set i (v1))) Q) : wp SC 3 d s 24 [(0, .ref a0), (1, v1)] [.int xs0, .ref as1] h Q := by
  refine wp_alR (ins := .aload_n 1) (k := 1) (pc' := 25) ⟨rfl, rfl⟩ (Or.inr ⟨_, rfl, rfl, rfl⟩) rfl r1 ?_
  exact wp_aas ⟨rfl, rfl⟩ e ⟨by decide, by decide⟩ hx hi hl (hv.elim Or.inl (fun z => by obtain ⟨b, ws, z1, z2⟩ := z; exact Or.inr ⟨b, _, ws, z1, z2, by decide⟩)) (wp_weak (re_sb_at rfl (re_sb_nil _)) K)
theorem B3_26 {SC : List Value} {d s : Nat} {h : re_H} {Q : Nat → Value → re_H → Prop} {a0 : Nat}
    {xe1 : Int32} (e2 : nb_fd h a0 0 1 (.int xe1)) (K : Q 1 (.int xe1) h) : wp SC 3 d s 26 [(0, .ref a0)] [] h Q := by
  refine wp_run 1 (pc' := 27) (lv' := [(0, .ref a0)]) (st' := [.ref a0]) rfl ?_
  obtain ⟨w2, e2a, e2b⟩ := e2
  refine wp_gf ⟨rfl, rfl⟩ rfl e2a e2b ?_
  exact wp_reti ⟨rfl, rfl⟩ rfl K
theorem B4_0 {SC : List Value} {d s : Nat} {h : re_H} {Q : Nat → Value → re_H → Prop} {a0 : Nat} {x1 : Int32}
    {c : Nat} {w : List Value} (eg : re_hg h a0 = some (c, w)) (ec : c = 0) {s1 s2 : Nat} (hs : s1 + s2 ≤ s) (K : wp SC 5 d s1 0 [(0, .ref a0), (1, .int x1)] [] h (wp_ret SC 4 (d + 1) s2 5 [(0, .ref a0), (1, .int x1)] [] Q)) : wp SC 4 (d + 1) s 0 [(0, .ref a0), (1, .int x1)] [] h Q := by
  refine wp_run 2 (pc' := 2) (lv' := [(0, .ref a0), (1, .int x1)]) (st' := [.int x1, .ref a0]) rfl ?_
  have eA : lv_args 0 (.ref a0 :: [.int x1].reverse) = [(0, .ref a0), (1, .int x1)] := by simp [lv_args, vc_i, vc_l, vc_r, vc_n, vc_a]
  refine wp_callV (ar := [.int x1]) (rest := []) (s1 := s1) (s2 := s2) (d' := d) ⟨rfl, rfl⟩ rfl (Or.inl rfl)  (by simp [re_cat, vc_i, vc_l, vc_r, vc_n, vc_a]) (by rw [show re_cat (.ref a0 :: [.int x1].reverse) = 2 from by simp [re_cat, vc_i, vc_l, vc_r, vc_n, vc_a]]; decide) (by decide) rfl eg ec rfl hs ?_
  rw [eA]
  exact wp_mono K (fun k v h' z => wp_ret_weak (re_sb_at rfl (re_sb_at rfl (re_sb_nil _))) z)
theorem B4_5 {SC : List Value} {d s : Nat} {h : re_H} {Q : Nat → Value → re_H → Prop} {a0 : Nat} {x1 : Int32}
    {c : Nat} {w : List Value} (eg : re_hg h a0 = some (c, w)) (ec : c = 0) {s1 s2 : Nat} (hs : s1 + s2 ≤ s) (K : wp SC 2 d s1 0 [(0, .ref a0)] [] h (wp_ret SC 4 (d + 1) s2 9 [(0, .ref a0), (1, .int x1)] [] Q)) : wp SC 4 (d + 1) s 5 [(0, .ref a0), (1, .int x1)] [] h Q := by
  refine wp_run 1 (pc' := 6) (lv' := [(0, .ref a0), (1, .int x1)]) (st' := [.ref a0]) rfl ?_
  have eA : lv_args 0 (.ref a0 :: [].reverse) = [(0, .ref a0)] := by simp [lv_args, vc_i, vc_l, vc_r, vc_n, vc_a]
  refine wp_callV (ar := []) (rest := []) (s1 := s1) (s2 := s2) (d' := d) ⟨rfl, rfl⟩ rfl (Or.inl rfl)  (by simp [re_cat, vc_i, vc_l, vc_r, vc_n, vc_a]) (by rw [show re_cat (.ref a0 :: [].reverse) = 1 from by simp [re_cat, vc_i, vc_l, vc_r, vc_n, vc_a]]; decide) (by decide) rfl eg ec rfl hs ?_
  rw [eA]
  exact wp_mono K (fun k v h' z => wp_ret_weak (re_sb_at rfl (re_sb_at rfl (re_sb_nil _))) z)
theorem B4_9 {SC : List Value} {d s : Nat} {h : re_H} {Q : Nat → Value → re_H → Prop} {a0 : Nat} {x1 : Int32}
    (K : wp SC 4 d s 13 [(1, .int x1)] [.ref h.1, .ref a0] (re_hq h (9, [.int 0, .int 0, .long 0, .null, .null, .null, .int 0, .int 0, .int 0, .int 0, .int 0])) Q) : wp SC 4 d s 9 [(0, .ref a0), (1, .int x1)] [] h Q := by
  refine wp_run 1 (pc' := 10) (lv' := [(0, .ref a0), (1, .int x1)]) (st' := [.ref a0]) rfl ?_
  exact wp_new (vs := [.int 0, .int 0, .long 0, .null, .null, .null, .int 0, .int 0, .int 0, .int 0, .int 0]) ⟨rfl, rfl⟩ rfl (by decide) (by decide) (wp_weak (re_sb_at rfl (re_sb_nil _)) K)
theorem B4_13 {SC : List Value} {d s : Nat} {h : re_H} {Q : Nat → Value → re_H → Prop} {x1 : Int32} {as0 : Nat} {as1 : Nat}
    {c : Nat} {w : List Value} (eg : re_hg h as0 = some (c, w)) (ec : c = 9) (K : wp SC 640 d 0 0 [(0, .ref as0), (1, .int (i32 1)), (2, .int x1), (3, .long (0)), (5, .null), (6, .null), (7, .null)] [] h (wp_ret SC 4 (d + 1) s 23 [] [.ref as0, .ref as1] Q)) : wp SC 4 (d + 1) s 13 [(1, .int x1)] [.ref as0, .ref as1] h Q := by
  refine wp_run 7 (pc' := 20) (lv' := [(1, .int x1)]) (st' := [.null, .null, .null, .long (0), .int x1, .int (i32 1), .ref as0, .ref as0, .ref as1]) rfl ?_
  have eA : lv_args 0 (.ref as0 :: [.null, .null, .null, .long (0), .int x1, .int (i32 1)].reverse) = [(0, .ref as0), (1, .int (i32 1)), (2, .int x1), (3, .long (0)), (5, .null), (6, .null), (7, .null)] := by simp [lv_args, vc_i, vc_l, vc_r, vc_n, vc_a]
  refine wp_callI (ar := [.null, .null, .null, .long (0), .int x1, .int (i32 1)]) (rest := [.ref as0, .ref as1]) (s1 := 0) (s2 := s) (d' := d) ⟨rfl, rfl⟩ rfl (Or.inl rfl)  (by simp [re_cat, vc_i, vc_l, vc_r, vc_n, vc_a]) (by rw [show re_cat (.ref as0 :: [.null, .null, .null, .long (0), .int x1, .int (i32 1)].reverse) = 8 from by simp [re_cat, vc_i, vc_l, vc_r, vc_n, vc_a]]; decide) (by decide) rfl eg ec rfl (Nat.le_of_eq (Nat.zero_add s)) ?_
  rw [eA]
  exact wp_mono K (fun k v h' z => wp_ret_weak (re_sb_nil _) z)
theorem B4_23 {SC : List Value} {d s : Nat} {h : re_H} {Q : Nat → Value → re_H → Prop} {as0 : Nat} {as1 : Nat}
    {c : Nat} {w : List Value} (eg : re_hg h as1 = some (c, w)) (ec : c = 0) (K : wp SC 3 d 0 0 [(0, .ref as1), (1, .ref as0)] [] h (wp_ret SC 4 (d + 1) s 26 [] [] Q)) : wp SC 4 (d + 1) s 23 [] [.ref as0, .ref as1] h Q := by
  have eA : lv_args 0 (.ref as1 :: [.ref as0].reverse) = [(0, .ref as1), (1, .ref as0)] := by simp [lv_args, vc_i, vc_l, vc_r, vc_n, vc_a]
  refine wp_callV (ar := [.ref as0]) (rest := []) (s1 := 0) (s2 := s) (d' := d) ⟨rfl, rfl⟩ rfl (Or.inl rfl)  (by simp [re_cat, vc_i, vc_l, vc_r, vc_n, vc_a]) (by rw [show re_cat (.ref as1 :: [.ref as0].reverse) = 2 from by simp [re_cat, vc_i, vc_l, vc_r, vc_n, vc_a]]; decide) (by decide) rfl eg ec rfl (Nat.le_of_eq (Nat.zero_add s)) ?_
  rw [eA]
  exact wp_mono K (fun k v h' z => wp_ret_weak (re_sb_nil _) z)
theorem B4_26 {SC : List Value} {d s : Nat} {h : re_H} {Q : Nat → Value → re_H → Prop} {xs0 : Int32}
    (K : Q 1 (.int xs0) h) : wp SC 4 d s 26 [] [.int xs0] h Q := by
  exact wp_reti ⟨rfl, rfl⟩ rfl K
theorem B5_0 {SC : List Value} {d s : Nat} {h : re_H} {Q : Nat → Value → re_H → Prop} {x1 : Int32}
    (K1 : x1 < 0 → wp SC 5 d s 10 [] [] h Q) (K2 : ¬ x1 < 0 → wp SC 5 d s 4 [(1, .int x1)] [] h Q) : wp SC 5 d s 0 [(1, .int x1)] [] h Q := by
  refine wp_run 1 (pc' := 1) (lv' := [(1, .int x1)]) (st' := [.int x1]) rfl ?_
  exact wp_if ⟨rfl, rfl⟩ rfl (fun hc => wp_weak (re_sb_nil _) (K1 (ic1_lt hc))) (fun hc => wp_weak (re_sb_at rfl (re_sb_nil _)) (K2 (ic0_lt hc)))
theorem B5_4 {SC : List Value} {d s : Nat} {h : re_H} {Q : Nat → Value → re_H → Prop} {x1 : Int32}
    (K1 : x1 < (i32 16) → wp SC 5 d s 21 [] [] h Q) (K2 : ¬ x1 < (i32 16) → wp SC 5 d s 10 [] [] h Q) : wp SC 5 d s 4 [(1, .int x1)] [] h Q := by
  refine wp_run 1 (pc' := 5) (lv' := [(1, .int x1)]) (st' := [.int x1]) rfl ?_
  refine wp_bi (x := (i32 16)) ⟨rfl, rfl⟩ (by decide) ?_
  exact wp_cmp ⟨rfl, rfl⟩ rfl (fun hc => wp_weak (re_sb_nil _) (K1 (ic1_lt hc))) (fun hc => wp_weak (re_sb_nil _) (K2 (ic0_lt hc)))
theorem B5_10 {SC : List Value} {d s : Nat} {h : re_H} {Q : Nat → Value → re_H → Prop} 
    (hs : 0 < s) (K : Q 6 .null h) : wp SC 5 d s 10 [] [] h Q := by
  exact wp_throw rfl hs (by simp [re_cat, vc_i, vc_l, vc_r, vc_n, vc_a]) K
theorem B5_21 {SC : List Value} {d s : Nat} {h : re_H} {Q : Nat → Value → re_H → Prop} 
    (K : Q 0 .null h) : wp SC 5 d s 21 [] [] h Q := by
  exact wp_retv ⟨rfl, rfl⟩ rfl K
theorem B6_0 {SC : List Value} {d s : Nat} {h : re_H} {Q : Nat → Value → re_H → Prop} {a0 : Nat} {x1 : Int32}
    {c : Nat} {w : List Value} (eg : re_hg h a0 = some (c, w)) (ec : c = 0) {s1 s2 : Nat} (hs : s1 + s2 ≤ s) (K : wp SC 7 d s1 0 [(0, .ref a0), (1, .int x1)] [] h (wp_ret SC 6 (d + 1) s2 5 [(0, .ref a0), (1, .int x1)] [] Q)) : wp SC 6 (d + 1) s 0 [(0, .ref a0), (1, .int x1)] [] h Q := by
  refine wp_run 2 (pc' := 2) (lv' := [(0, .ref a0), (1, .int x1)]) (st' := [.int x1, .ref a0]) rfl ?_
  have eA : lv_args 0 (.ref a0 :: [.int x1].reverse) = [(0, .ref a0), (1, .int x1)] := by simp [lv_args, vc_i, vc_l, vc_r, vc_n, vc_a]
  refine wp_callV (ar := [.int x1]) (rest := []) (s1 := s1) (s2 := s2) (d' := d) ⟨rfl, rfl⟩ rfl (Or.inl rfl)  (by simp [re_cat, vc_i, vc_l, vc_r, vc_n, vc_a]) (by rw [show re_cat (.ref a0 :: [.int x1].reverse) = 2 from by simp [re_cat, vc_i, vc_l, vc_r, vc_n, vc_a]]; decide) (by decide) rfl eg ec rfl hs ?_
  rw [eA]
  exact wp_mono K (fun k v h' z => wp_ret_weak (re_sb_at rfl (re_sb_at rfl (re_sb_nil _))) z)
theorem B6_5 {SC : List Value} {d s : Nat} {h : re_H} {Q : Nat → Value → re_H → Prop} {a0 : Nat} {x1 : Int32}
    {c : Nat} {w : List Value} (eg : re_hg h a0 = some (c, w)) (ec : c = 0) {s1 s2 : Nat} (hs : s1 + s2 ≤ s) (K : wp SC 2 d s1 0 [(0, .ref a0)] [] h (wp_ret SC 6 (d + 1) s2 9 [(0, .ref a0), (1, .int x1)] [] Q)) : wp SC 6 (d + 1) s 5 [(0, .ref a0), (1, .int x1)] [] h Q := by
  refine wp_run 1 (pc' := 6) (lv' := [(0, .ref a0), (1, .int x1)]) (st' := [.ref a0]) rfl ?_
  have eA : lv_args 0 (.ref a0 :: [].reverse) = [(0, .ref a0)] := by simp [lv_args, vc_i, vc_l, vc_r, vc_n, vc_a]
  refine wp_callV (ar := []) (rest := []) (s1 := s1) (s2 := s2) (d' := d) ⟨rfl, rfl⟩ rfl (Or.inl rfl)  (by simp [re_cat, vc_i, vc_l, vc_r, vc_n, vc_a]) (by rw [show re_cat (.ref a0 :: [].reverse) = 1 from by simp [re_cat, vc_i, vc_l, vc_r, vc_n, vc_a]]; decide) (by decide) rfl eg ec rfl hs ?_
  rw [eA]
  exact wp_mono K (fun k v h' z => wp_ret_weak (re_sb_at rfl (re_sb_at rfl (re_sb_nil _))) z)
theorem B6_9 {SC : List Value} {d s : Nat} {h : re_H} {Q : Nat → Value → re_H → Prop} {a0 : Nat} {x1 : Int32}
    (K : wp SC 6 d s 13 [(1, .int x1)] [.ref h.1, .ref a0] (re_hq h (9, [.int 0, .int 0, .long 0, .null, .null, .null, .int 0, .int 0, .int 0, .int 0, .int 0])) Q) : wp SC 6 d s 9 [(0, .ref a0), (1, .int x1)] [] h Q := by
  refine wp_run 1 (pc' := 10) (lv' := [(0, .ref a0), (1, .int x1)]) (st' := [.ref a0]) rfl ?_
  exact wp_new (vs := [.int 0, .int 0, .long 0, .null, .null, .null, .int 0, .int 0, .int 0, .int 0, .int 0]) ⟨rfl, rfl⟩ rfl (by decide) (by decide) (wp_weak (re_sb_at rfl (re_sb_nil _)) K)
theorem B6_13 {SC : List Value} {d s : Nat} {h : re_H} {Q : Nat → Value → re_H → Prop} {x1 : Int32} {as0 : Nat} {as1 : Nat}
    {c : Nat} {w : List Value} (eg : re_hg h as0 = some (c, w)) (ec : c = 9) (K : wp SC 640 d 0 0 [(0, .ref as0), (1, .int (i32 2)), (2, .int x1), (3, .long (0)), (5, .null), (6, .null), (7, .null)] [] h (wp_ret SC 6 (d + 1) s 23 [] [.ref as0, .ref as1] Q)) : wp SC 6 (d + 1) s 13 [(1, .int x1)] [.ref as0, .ref as1] h Q := by
  refine wp_run 7 (pc' := 20) (lv' := [(1, .int x1)]) (st' := [.null, .null, .null, .long (0), .int x1, .int (i32 2), .ref as0, .ref as0, .ref as1]) rfl ?_
  have eA : lv_args 0 (.ref as0 :: [.null, .null, .null, .long (0), .int x1, .int (i32 2)].reverse) = [(0, .ref as0), (1, .int (i32 2)), (2, .int x1), (3, .long (0)), (5, .null), (6, .null), (7, .null)] := by simp [lv_args, vc_i, vc_l, vc_r, vc_n, vc_a]
  refine wp_callI (ar := [.null, .null, .null, .long (0), .int x1, .int (i32 2)]) (rest := [.ref as0, .ref as1]) (s1 := 0) (s2 := s) (d' := d) ⟨rfl, rfl⟩ rfl (Or.inl rfl)  (by simp [re_cat, vc_i, vc_l, vc_r, vc_n, vc_a]) (by rw [show re_cat (.ref as0 :: [.null, .null, .null, .long (0), .int x1, .int (i32 2)].reverse) = 8 from by simp [re_cat, vc_i, vc_l, vc_r, vc_n, vc_a]]; decide) (by decide) rfl eg ec rfl (Nat.le_of_eq (Nat.zero_add s)) ?_
  rw [eA]
  exact wp_mono K (fun k v h' z => wp_ret_weak (re_sb_nil _) z)
theorem B6_23 {SC : List Value} {d s : Nat} {h : re_H} {Q : Nat → Value → re_H → Prop} {as0 : Nat} {as1 : Nat}
    {c : Nat} {w : List Value} (eg : re_hg h as1 = some (c, w)) (ec : c = 0) (K : wp SC 3 d 0 0 [(0, .ref as1), (1, .ref as0)] [] h (wp_ret SC 6 (d + 1) s 26 [] [] Q)) : wp SC 6 (d + 1) s 23 [] [.ref as0, .ref as1] h Q := by
  have eA : lv_args 0 (.ref as1 :: [.ref as0].reverse) = [(0, .ref as1), (1, .ref as0)] := by simp [lv_args, vc_i, vc_l, vc_r, vc_n, vc_a]
  refine wp_callV (ar := [.ref as0]) (rest := []) (s1 := 0) (s2 := s) (d' := d) ⟨rfl, rfl⟩ rfl (Or.inl rfl)  (by simp [re_cat, vc_i, vc_l, vc_r, vc_n, vc_a]) (by rw [show re_cat (.ref as1 :: [.ref as0].reverse) = 2 from by simp [re_cat, vc_i, vc_l, vc_r, vc_n, vc_a]]; decide) (by decide) rfl eg ec rfl (Nat.le_of_eq (Nat.zero_add s)) ?_
  rw [eA]
  exact wp_mono K (fun k v h' z => wp_ret_weak (re_sb_nil _) z)
theorem B6_26 {SC : List Value} {d s : Nat} {h : re_H} {Q : Nat → Value → re_H → Prop} {xs0 : Int32}
    (K : Q 1 (.int xs0) h) : wp SC 6 d s 26 [] [.int xs0] h Q := by
  exact wp_reti ⟨rfl, rfl⟩ rfl K
theorem B7_0 {SC : List Value} {d s : Nat} {h : re_H} {Q : Nat → Value → re_H → Prop} {x1 : Int32}
    (K1 : x1 < 0 → wp SC 7 d s 9 [] [] h Q) (K2 : ¬ x1 < 0 → wp SC 7 d s 4 [(1, .int x1)] [] h Q) : wp SC 7 d s 0 [(1, .int x1)] [] h Q := by
  refine wp_run 1 (pc' := 1) (lv' := [(1, .int x1)]) (st' := [.int x1]) rfl ?_
  exact wp_if ⟨rfl, rfl⟩ rfl (fun hc => wp_weak (re_sb_nil _) (K1 (ic1_lt hc))) (fun hc => wp_weak (re_sb_at rfl (re_sb_nil _)) (K2 (ic0_lt hc)))
theorem B7_4 {SC : List Value} {d s : Nat} {h : re_H} {Q : Nat → Value → re_H → Prop} {x1 : Int32}
    (K1 : x1 < (i32 4) → wp SC 7 d s 20 [] [] h Q) (K2 : ¬ x1 < (i32 4) → wp SC 7 d s 9 [] [] h Q) : wp SC 7 d s 4 [(1, .int x1)] [] h Q := by
  refine wp_run 2 (pc' := 6) (lv' := [(1, .int x1)]) (st' := [.int (i32 4), .int x1]) rfl ?_
  exact wp_cmp ⟨rfl, rfl⟩ rfl (fun hc => wp_weak (re_sb_nil _) (K1 (ic1_lt hc))) (fun hc => wp_weak (re_sb_nil _) (K2 (ic0_lt hc)))
theorem B7_9 {SC : List Value} {d s : Nat} {h : re_H} {Q : Nat → Value → re_H → Prop} 
    (hs : 0 < s) (K : Q 6 .null h) : wp SC 7 d s 9 [] [] h Q := by
  exact wp_throw rfl hs (by simp [re_cat, vc_i, vc_l, vc_r, vc_n, vc_a]) K
theorem B7_20 {SC : List Value} {d s : Nat} {h : re_H} {Q : Nat → Value → re_H → Prop} 
    (K : Q 0 .null h) : wp SC 7 d s 20 [] [] h Q := by
  exact wp_retv ⟨rfl, rfl⟩ rfl K
theorem B8_0 {SC : List Value} {d s : Nat} {h : re_H} {Q : Nat → Value → re_H → Prop} {a0 : Nat}
    {c : Nat} {w : List Value} (eg : re_hg h a0 = some (c, w)) (ec : c = 0) {s1 s2 : Nat} (hs : s1 + s2 ≤ s) (K : wp SC 9 d s1 0 [(0, .ref a0), (1, .int (i32 1))] [] h (wp_ret SC 8 (d + 1) s2 5 [(0, .ref a0)] [] Q)) : wp SC 8 (d + 1) s 0 [(0, .ref a0)] [] h Q := by
  refine wp_run 2 (pc' := 2) (lv' := [(0, .ref a0)]) (st' := [.int (i32 1), .ref a0]) rfl ?_
  have eA : lv_args 0 (.ref a0 :: [.int (i32 1)].reverse) = [(0, .ref a0), (1, .int (i32 1))] := by simp [lv_args, vc_i, vc_l, vc_r, vc_n, vc_a]
  refine wp_callV (ar := [.int (i32 1)]) (rest := []) (s1 := s1) (s2 := s2) (d' := d) ⟨rfl, rfl⟩ rfl (Or.inl rfl)  (by simp [re_cat, vc_i, vc_l, vc_r, vc_n, vc_a]) (by rw [show re_cat (.ref a0 :: [.int (i32 1)].reverse) = 2 from by simp [re_cat, vc_i, vc_l, vc_r, vc_n, vc_a]]; decide) (by decide) rfl eg ec rfl hs ?_
  rw [eA]
  exact wp_mono K (fun k v h' z => wp_ret_weak (re_sb_at rfl (re_sb_nil _)) z)
theorem B8_5 {SC : List Value} {d s : Nat} {h : re_H} {Q : Nat → Value → re_H → Prop} {a0 : Nat}
    (K : wp SC 8 d s 9 [(0, .ref a0)] [.ref h.1, .ref a0] (re_hq h (9, [.int 0, .int 0, .long 0, .null, .null, .null, .int 0, .int 0, .int 0, .int 0, .int 0])) Q) : wp SC 8 d s 5 [(0, .ref a0)] [] h Q := by
  refine wp_run 1 (pc' := 6) (lv' := [(0, .ref a0)]) (st' := [.ref a0]) rfl ?_
  exact wp_new (vs := [.int 0, .int 0, .long 0, .null, .null, .null, .int 0, .int 0, .int 0, .int 0, .int 0]) ⟨rfl, rfl⟩ rfl (by decide) (by decide) (wp_weak (re_sb_at rfl (re_sb_nil _)) K)
theorem B8_9 {SC : List Value} {d s : Nat} {h : re_H} {Q : Nat → Value → re_H → Prop} {a0 : Nat} {as0 : Nat} {as1 : Nat}
    {c : Nat} {w : List Value} (eg : re_hg h a0 = some (c, w)) (ec : c = 0) (K : wp SC 10 d 0 0 [(0, .ref a0)] [] h (wp_ret SC 8 (d + 1) s 17 [] [.long (0), .int (i32 0), .int (i32 3), .ref as0, .ref as0, .ref as1] Q)) : wp SC 8 (d + 1) s 9 [(0, .ref a0)] [.ref as0, .ref as1] h Q := by
  refine wp_run 5 (pc' := 14) (lv' := [(0, .ref a0)]) (st' := [.ref a0, .long (0), .int (i32 0), .int (i32 3), .ref as0, .ref as0, .ref as1]) rfl ?_
  have eA : lv_args 0 (.ref a0 :: [].reverse) = [(0, .ref a0)] := by simp [lv_args, vc_i, vc_l, vc_r, vc_n, vc_a]
  refine wp_callV (ar := []) (rest := [.long (0), .int (i32 0), .int (i32 3), .ref as0, .ref as0, .ref as1]) (s1 := 0) (s2 := s) (d' := d) ⟨rfl, rfl⟩ rfl (Or.inl rfl)  (by simp [re_cat, vc_i, vc_l, vc_r, vc_n, vc_a]) (by rw [show re_cat (.ref a0 :: [].reverse) = 1 from by simp [re_cat, vc_i, vc_l, vc_r, vc_n, vc_a]]; decide) (by decide) rfl eg ec rfl (Nat.le_of_eq (Nat.zero_add s)) ?_
  rw [eA]
  exact wp_mono K (fun k v h' z => wp_ret_weak (re_sb_nil _) z)
theorem B8_17 {SC : List Value} {d s : Nat} {h : re_H} {Q : Nat → Value → re_H → Prop} {vs0 : Value} (rs0 : re_R vs0) {ls1 : Int64} {xs2 : Int32} {xs3 : Int32} {as4 : Nat} {as5 : Nat} {as6 : Nat}
    {c : Nat} {w : List Value} (eg : re_hg h as4 = some (c, w)) (ec : c = 9) (K : wp SC 640 d 0 0 [(0, .ref as4), (1, .int xs3), (2, .int xs2), (3, .long ls1), (5, vs0), (6, .null), (7, .null)] [] h (wp_ret SC 8 (d + 1) s 22 [] [.ref as5, .ref as6] Q)) : wp SC 8 (d + 1) s 17 [] [vs0, .long ls1, .int xs2, .int xs3, .ref as4, .ref as5, .ref as6] h Q := by
  refine wp_run 2 (pc' := 19) (lv' := []) (st' := [.null, .null, vs0, .long ls1, .int xs2, .int xs3, .ref as4, .ref as5, .ref as6]) rfl ?_
  have eA : lv_args 0 (.ref as4 :: [.null, .null, vs0, .long ls1, .int xs2, .int xs3].reverse) = [(0, .ref as4), (1, .int xs3), (2, .int xs2), (3, .long ls1), (5, vs0), (6, .null), (7, .null)] := by simp [lv_args, vc_i, vc_l, vc_r, vc_n, vc_a, re_R_cat rs0]
  refine wp_callI (ar := [.null, .null, vs0, .long ls1, .int xs2, .int xs3]) (rest := [.ref as5, .ref as6]) (s1 := 0) (s2 := s) (d' := d) ⟨rfl, rfl⟩ rfl (Or.inl rfl)  (by simp [re_cat, vc_i, vc_l, vc_r, vc_n, vc_a]) (by rw [show re_cat (.ref as4 :: [.null, .null, vs0, .long ls1, .int xs2, .int xs3].reverse) = 8 from by simp [re_cat, vc_i, vc_l, vc_r, vc_n, vc_a, re_R_cat rs0]]; decide) (by decide) rfl eg ec rfl (Nat.le_of_eq (Nat.zero_add s)) ?_
  rw [eA]
  exact wp_mono K (fun k v h' z => wp_ret_weak (re_sb_nil _) z)
theorem B8_22 {SC : List Value} {d s : Nat} {h : re_H} {Q : Nat → Value → re_H → Prop} {as0 : Nat} {as1 : Nat}
    {c : Nat} {w : List Value} (eg : re_hg h as1 = some (c, w)) (ec : c = 0) (K : wp SC 3 d 0 0 [(0, .ref as1), (1, .ref as0)] [] h (wp_ret SC 8 (d + 1) s 25 [] [] Q)) : wp SC 8 (d + 1) s 22 [] [.ref as0, .ref as1] h Q := by
  have eA : lv_args 0 (.ref as1 :: [.ref as0].reverse) = [(0, .ref as1), (1, .ref as0)] := by simp [lv_args, vc_i, vc_l, vc_r, vc_n, vc_a]
  refine wp_callV (ar := [.ref as0]) (rest := []) (s1 := 0) (s2 := s) (d' := d) ⟨rfl, rfl⟩ rfl (Or.inl rfl)  (by simp [re_cat, vc_i, vc_l, vc_r, vc_n, vc_a]) (by rw [show re_cat (.ref as1 :: [.ref as0].reverse) = 2 from by simp [re_cat, vc_i, vc_l, vc_r, vc_n, vc_a]]; decide) (by decide) rfl eg ec rfl (Nat.le_of_eq (Nat.zero_add s)) ?_
  rw [eA]
  exact wp_mono K (fun k v h' z => wp_ret_weak (re_sb_nil _) z)
theorem B8_25 {SC : List Value} {d s : Nat} {h : re_H} {Q : Nat → Value → re_H → Prop} {xs0 : Int32}
    (K : Q 1 (.int xs0) h) : wp SC 8 d s 25 [] [.int xs0] h Q := by
  exact wp_reti ⟨rfl, rfl⟩ rfl K
theorem B9_0 {SC : List Value} {d s : Nat} {h : re_H} {Q : Nat → Value → re_H → Prop} {a0 : Nat} {x1 : Int32}
    {xe1 : Int32} (e2 : nb_fd h a0 0 1 (.int xe1)) (K1 : ¬ xe1 < x1 → wp SC 9 d s 19 [(0, .ref a0), (1, .int x1)] [] h Q) (K2 : xe1 < x1 → wp SC 9 d s 8 [] [] h Q) : wp SC 9 d s 0 [(0, .ref a0), (1, .int x1)] [] h Q := by
  refine wp_run 1 (pc' := 1) (lv' := [(0, .ref a0), (1, .int x1)]) (st' := [.ref a0]) rfl ?_
  obtain ⟨w2, e2a, e2b⟩ := e2
  refine wp_gf ⟨rfl, rfl⟩ rfl e2a e2b ?_
  refine wp_run 1 (pc' := 5) (lv' := [(0, .ref a0), (1, .int x1)]) (st' := [.int x1, .int xe1]) rfl ?_
  exact wp_cmp ⟨rfl, rfl⟩ rfl (fun hc => wp_weak (re_sb_at rfl (re_sb_at rfl (re_sb_nil _))) (K1 (ic1_ge hc))) (fun hc => wp_weak (re_sb_nil _) (K2 (ic0_ge hc)))
theorem B9_8 {SC : List Value} {d s : Nat} {h : re_H} {Q : Nat → Value → re_H → Prop} 
    (hs : 0 < s) (K : Q 4 .null h) : wp SC 9 d s 8 [] [] h Q := by
  exact wp_throw rfl hs (by simp [re_cat, vc_i, vc_l, vc_r, vc_n, vc_a]) K
theorem B9_19 {SC : List Value} {d s : Nat} {h : re_H} {Q : Nat → Value → re_H → Prop} {a0 : Nat} {x1 : Int32}
    {xe1 : Int32} (e2 : nb_fd h a0 0 1 (.int xe1)) (K : wp SC 9 d s 28 [(0, .ref a0), (2, .int (i32 1)), (3, .int (xe1 - x1))] [] h Q) : wp SC 9 d s 19 [(0, .ref a0), (1, .int x1)] [] h Q := by
  refine wp_run 3 (pc' := 22) (lv' := [(2, .int (i32 1)), (0, .ref a0), (1, .int x1)]) (st' := [.ref a0]) rfl ?_
  obtain ⟨w2, e2a, e2b⟩ := e2
  refine wp_gf ⟨rfl, rfl⟩ rfl e2a e2b ?_
  refine wp_run 3 (pc' := 28) (lv' := [(3, .int (xe1 - x1)), (2, .int (i32 1)), (0, .ref a0), (1, .int x1)]) (st' := []) rfl ?_
  exact wp_weak (re_sb_at rfl (re_sb_at rfl (re_sb_at rfl (re_sb_nil _)))) K
theorem B9_28 {SC : List Value} {d s : Nat} {h : re_H} {Q : Nat → Value → re_H → Prop} {a0 : Nat} {x2 : Int32} {x3 : Int32}
    {xe1 : Int32} (e2 : nb_fd h a0 0 1 (.int xe1)) (K1 : ¬ x3 < xe1 → wp SC 9 d s 67 [(2, .int x2)] [] h Q) (K2 : x3 < xe1 → wp SC 9 d s 36 [(0, .ref a0), (2, .int x2), (3, .int x3)] [] h Q) : wp SC 9 d s 28 [(0, .ref a0), (2, .int x2), (3, .int x3)] [] h Q := by
  refine wp_run 2 (pc' := 30) (lv' := [(0, .ref a0), (2, .int x2), (3, .int x3)]) (st' := [.ref a0, .int x3]) rfl ?_
  obtain ⟨w2, e2a, e2b⟩ := e2
  refine wp_gf ⟨rfl, rfl⟩ rfl e2a e2b ?_
  exact wp_cmp ⟨rfl, rfl⟩ rfl (fun hc => wp_weak (re_sb_at rfl (re_sb_nil _)) (K1 (ic1_ge hc))) (fun hc => wp_weak (re_sb_at rfl (re_sb_at rfl (re_sb_at rfl (re_sb_nil _)))) (K2 (ic0_ge hc)))
theorem B9_36 {SC : List Value} {d s : Nat} {h : re_H} {Q : Nat → Value → re_H → Prop} {a0 : Nat} {x2 : Int32} {x3 : Int32}
    {ae1 : Nat} (e2 : nb_fd h a0 0 0 (.ref ae1)) {ve3 : Value} (re3 : re_R ve3) (e4 : nb_ar h ae1 103 x3 (ve3)) (K1 : ve3 = .null → wp SC 9 d s 46 [(0, .ref a0), (3, .int x3)] [.int x2] h Q) (K2 : ∀ b5, ve3 = .ref b5 → wp SC 9 d s 50 [(0, .ref a0), (3, .int x3)] [.int x2] h Q) : wp SC 9 d s 36 [(0, .ref a0), (2, .int x2), (3, .int x3)] [] h Q := by
  refine wp_run 2 (pc' := 38) (lv' := [(0, .ref a0), (2, .int x2), (3, .int x3)]) (st' := [.ref a0, .int x2]) rfl ?_
  obtain ⟨w2, e2a, e2b⟩ := e2
  refine wp_gf ⟨rfl, rfl⟩ rfl e2a e2b ?_
  refine wp_run 1 (pc' := 42) (lv' := [(0, .ref a0), (2, .int x2), (3, .int x3)]) (st' := [.int x3, .ref ae1, .int x2]) rfl ?_
  obtain ⟨w4, i4, e4a, e4x, e4i, e4v⟩ := e4
  refine wp_aal ⟨rfl, rfl⟩ e4a ⟨by decide, by decide⟩ e4x e4i e4v ?_
  exact wp_ifnn ⟨rfl, rfl⟩ rfl re3 (fun bb hc => by subst hc; exact wp_weak (re_sb_at rfl (re_sb_at rfl (re_sb_nil _))) (K2 bb rfl)) (fun hc => by subst hc; exact wp_weak (re_sb_at rfl (re_sb_at rfl (re_sb_nil _))) (K1 rfl))
theorem B9_46 {SC : List Value} {d s : Nat} {h : re_H} {Q : Nat → Value → re_H → Prop} {a0 : Nat} {x3 : Int32} {xs0 : Int32}
    (K : wp SC 9 d s 59 [(0, .ref a0), (3, .int x3)] [.int (i32 0), .int xs0] h Q) : wp SC 9 d s 46 [(0, .ref a0), (3, .int x3)] [.int xs0] h Q := by
  refine wp_run 2 (pc' := 59) (lv' := [(0, .ref a0), (3, .int x3)]) (st' := [.int (i32 0), .int xs0]) rfl ?_
  exact wp_weak (re_sb_at rfl (re_sb_at rfl (re_sb_nil _))) K
theorem B9_50 {SC : List Value} {d s : Nat} {h : re_H} {Q : Nat → Value → re_H → Prop} {a0 : Nat} {x3 : Int32} {xs0 : Int32}
    {ae1 : Nat} (e2 : nb_fd h a0 0 0 (.ref ae1)) {ve3 : Value} (re3 : re_R ve3) (e4 : nb_ar h ae1 103 x3 (ve3)) {b5 : Nat} (n5 : ve3 = .ref b5) {xe6 : Int32} (e7 : nb_fd h b5 9 6 (.int xe6)) (K : wp SC 9 d s 59 [(0, .ref a0), (3, .int x3)] [.int xe6, .int xs0] h Q) : wp SC 9 d s 50 [(0, .ref a0), (3, .int x3)] [.int xs0] h Q := by
  refine wp_run 1 (pc' := 51) (lv' := [(0, .ref a0), (3, .int x3)]) (st' := [.ref a0, .int xs0]) rfl ?_
  obtain ⟨w2, e2a, e2b⟩ := e2
  refine wp_gf ⟨rfl, rfl⟩ rfl e2a e2b ?_
  refine wp_run 1 (pc' := 55) (lv' := [(0, .ref a0), (3, .int x3)]) (st' := [.int x3, .ref ae1, .int xs0]) rfl ?_
  obtain ⟨w4, i4, e4a, e4x, e4i, e4v⟩ := e4
  refine wp_aal ⟨rfl, rfl⟩ e4a ⟨by decide, by decide⟩ e4x e4i e4v ?_
  subst n5
  obtain ⟨w7, e7a, e7b⟩ := e7
  refine wp_gf ⟨rfl, rfl⟩ rfl e7a e7b ?_
  exact wp_weak (re_sb_at rfl (re_sb_at rfl (re_sb_nil _))) K
theorem B9_59 {SC : List Value} {d s : Nat} {h : re_H} {Q : Nat → Value → re_H → Prop} {a0 : Nat} {x3 : Int32} {xs0 : Int32} {xs1 : Int32}
    (K : wp SC 9 d s 28 [(0, .ref a0), (2, .int (xs1 + xs0)), (3, .int (x3 + (i32 1)))] [] h Q) : wp SC 9 d s 59 [(0, .ref a0), (3, .int x3)] [.int xs0, .int xs1] h Q := by
  refine wp_run 4 (pc' := 28) (lv' := [(3, .int (x3 + (i32 1))), (2, .int (xs1 + xs0)), (0, .ref a0)]) (st' := []) rfl ?_
  exact wp_weak (re_sb_at rfl (re_sb_at rfl (re_sb_at rfl (re_sb_nil _)))) K
theorem B9_67 {SC : List Value} {d s : Nat} {h : re_H} {Q : Nat → Value → re_H → Prop} {x2 : Int32}
    (K1 : ¬ (i32 30) < x2 → wp SC 9 d s 84 [] [] h Q) (K2 : (i32 30) < x2 → wp SC 9 d s 73 [] [] h Q) : wp SC 9 d s 67 [(2, .int x2)] [] h Q := by
  refine wp_run 1 (pc' := 68) (lv' := [(2, .int x2)]) (st' := [.int x2]) rfl ?_
  refine wp_bi (x := (i32 30)) ⟨rfl, rfl⟩ (by decide) ?_
  exact wp_cmp ⟨rfl, rfl⟩ rfl (fun hc => wp_weak (re_sb_nil _) (K1 (ic1_le hc))) (fun hc => wp_weak (re_sb_nil _) (K2 (ic0_le hc)))
theorem B9_73 {SC : List Value} {d s : Nat} {h : re_H} {Q : Nat → Value → re_H → Prop} 
    (hs : 0 < s) (K : Q 4 .null h) : wp SC 9 d s 73 [] [] h Q := by
  exact wp_throw rfl hs (by simp [re_cat, vc_i, vc_l, vc_r, vc_n, vc_a]) K
theorem B9_84 {SC : List Value} {d s : Nat} {h : re_H} {Q : Nat → Value → re_H → Prop} 
    (K : Q 0 .null h) : wp SC 9 d s 84 [] [] h Q := by
  exact wp_retv ⟨rfl, rfl⟩ rfl K
theorem B10_0 {SC : List Value} {d s : Nat} {h : re_H} {Q : Nat → Value → re_H → Prop} {a0 : Nat}
    {xe1 : Int32} (e2 : nb_fd h a0 0 1 (.int xe1)) (K1 : ¬ xe1 = 0 → wp SC 10 d s 9 [(0, .ref a0)] [] h Q) (K2 : xe1 = 0 → wp SC 10 d s 7 [] [] h Q) : wp SC 10 d s 0 [(0, .ref a0)] [] h Q := by
  refine wp_run 1 (pc' := 1) (lv' := [(0, .ref a0)]) (st' := [.ref a0]) rfl ?_
  obtain ⟨w2, e2a, e2b⟩ := e2
  refine wp_gf ⟨rfl, rfl⟩ rfl e2a e2b ?_
  exact wp_if ⟨rfl, rfl⟩ rfl (fun hc => wp_weak (re_sb_at rfl (re_sb_nil _)) (K1 (ic1_ne hc))) (fun hc => wp_weak (re_sb_nil _) (K2 (ic0_ne hc)))
theorem B10_7 {SC : List Value} {d s : Nat} {h : re_H} {Q : Nat → Value → re_H → Prop} 
    (K : Q 3 (.null) h) : wp SC 10 d s 7 [] [] h Q := by
  refine wp_run 1 (pc' := 8) (lv' := []) (st' := [.null]) rfl ?_
  exact wp_reta ⟨rfl, rfl⟩ rfl (Or.inl rfl) K
theorem B10_9 {SC : List Value} {d s : Nat} {h : re_H} {Q : Nat → Value → re_H → Prop} {a0 : Nat}
    {xe1 : Int32} (e2 : nb_fd h a0 0 1 (.int xe1)) {w : List Value} (e : re_hg h a0 = some (0, w)) (hk : 1 < w.length) (K : wp SC 10 d s 19 [(0, .ref a0)] [] (re_hw h a0 (0, w.set 1 (.int (xe1 - (i32 1))))) Q) : wp SC 10 d s 9 [(0, .ref a0)] [] h Q := by
  refine wp_run 2 (pc' := 11) (lv' := [(0, .ref a0)]) (st' := [.ref a0, .ref a0]) rfl ?_
  obtain ⟨w2, e2a, e2b⟩ := e2
  refine wp_gf ⟨rfl, rfl⟩ rfl e2a e2b ?_
  refine wp_run 2 (pc' := 16) (lv' := [(0, .ref a0)]) (st' := [.int (xe1 - (i32 1)), .ref a0]) rfl ?_
  exact wp_pf ⟨rfl, rfl⟩ rfl (Or.inl rfl) e hk (fit_i _) (wp_weak (re_sb_at rfl (re_sb_nil _)) K)
theorem B10_19 {SC : List Value} {d s : Nat} {h : re_H} {Q : Nat → Value → re_H → Prop} {a0 : Nat}
    {ae1 : Nat} (e2 : nb_fd h a0 0 0 (.ref ae1)) {xe3 : Int32} (e4 : nb_fd h a0 0 1 (.int xe3)) {ve5 : Value} (re5 : re_R ve5) (e6 : nb_ar h ae1 103 xe3 (ve5)) {ae7 : Nat} (e8 : nb_fd h a0 0 0 (.ref ae7)) {xe9 : Int32} (e10 : nb_fd h a0 0 1 (.int xe9)) {w : List Value} {i : Nat} (e : re_hg h ae7 = some (103, w)) (hx : xe9 = i32 i) (hi : i < 2147483648) (hl : i < w.length) (K : wp SC 10 d s 39 [(1, ve5)] [] (re_hw h ae7 (103, w.set i (.null))) Q) : wp SC 10 d s 19 [(0, .ref a0)] [] h Q := by
  refine wp_run 1 (pc' := 20) (lv' := [(0, .ref a0)]) (st' := [.ref a0]) rfl ?_
  obtain ⟨w2, e2a, e2b⟩ := e2
  refine wp_gf ⟨rfl, rfl⟩ rfl e2a e2b ?_
  refine wp_run 1 (pc' := 24) (lv' := [(0, .ref a0)]) (st' := [.ref a0, .ref ae1]) rfl ?_
  obtain ⟨w4, e4a, e4b⟩ := e4
  refine wp_gf ⟨rfl, rfl⟩ rfl e4a e4b ?_
  obtain ⟨w6, i6, e6a, e6x, e6i, e6v⟩ := e6
  refine wp_aal ⟨rfl, rfl⟩ e6a ⟨by decide, by decide⟩ e6x e6i e6v ?_
  refine wp_asR (ins := .astore_n 1) (k := 1) (pc' := 29) (lv' := [(1, ve5), (0, .ref a0)]) ⟨rfl, rfl⟩ (Or.inr ⟨_, rfl, rfl, rfl⟩) (by decide) re5 rfl ?_
  refine wp_run 1 (pc' := 30) (lv' := [(1, ve5), (0, .ref a0)]) (st' := [.ref a0]) rfl ?_
  obtain ⟨w8, e8a, e8b⟩ := e8
  refine wp_gf ⟨rfl, rfl⟩ rfl e8a e8b ?_
  refine wp_run 1 (pc' := 34) (lv' := [(1, ve5), (0, .ref a0)]) (st' := [.ref a0, .ref ae7]) rfl ?_
  obtain ⟨w10, e10a, e10b⟩ := e10
  refine wp_gf ⟨rfl, rfl⟩ rfl e10a e10b ?_
  refine wp_run 1 (pc' := 38) (lv' := [(1, ve5), (0, .ref a0)]) (st' := [.null, .int xe9, .ref ae7]) rfl ?_
  exact wp_aas ⟨rfl, rfl⟩ e ⟨by decide, by decide⟩ hx hi hl (Or.inl rfl) (wp_weak (re_sb_at rfl (re_sb_nil _)) K)
theorem B10_39 {SC : List Value} {d s : Nat} {h : re_H} {Q : Nat → Value → re_H → Prop} {v1 : Value} (r1 : re_R v1)
    (K : Q 3 v1 h) : wp SC 10 d s 39 [(1, v1)] [] h Q := by
  refine wp_alR (ins := .aload_n 1) (k := 1) (pc' := 40) ⟨rfl, rfl⟩ (Or.inr ⟨_, rfl, rfl, rfl⟩) rfl r1 ?_
  exact wp_reta ⟨rfl, rfl⟩ rfl r1 K
theorem B11_0 {SC : List Value} {d s : Nat} {h : re_H} {Q : Nat → Value → re_H → Prop} {a0 : Nat} {x1 : Int32}
    (K1 : x1 < 0 → wp SC 11 d s 9 [] [] h Q) (K2 : ¬ x1 < 0 → wp SC 11 d s 4 [(0, .ref a0), (1, .int x1)] [] h Q) : wp SC 11 d s 0 [(0, .ref a0), (1, .int x1)] [] h Q := by
  refine wp_run 1 (pc' := 1) (lv' := [(0, .ref a0), (1, .int x1)]) (st' := [.int x1]) rfl ?_
  exact wp_if ⟨rfl, rfl⟩ rfl (fun hc => wp_weak (re_sb_nil _) (K1 (ic1_lt hc))) (fun hc => wp_weak (re_sb_at rfl (re_sb_at rfl (re_sb_nil _))) (K2 (ic0_lt hc)))
theorem B11_4 {SC : List Value} {d s : Nat} {h : re_H} {Q : Nat → Value → re_H → Prop} {a0 : Nat} {x1 : Int32}
    (K1 : x1 < (i32 4) → wp SC 11 d s 19 [(0, .ref a0), (1, .int x1)] [] h Q) (K2 : ¬ x1 < (i32 4) → wp SC 11 d s 9 [] [] h Q) : wp SC 11 d s 4 [(0, .ref a0), (1, .int x1)] [] h Q := by
  refine wp_run 2 (pc' := 6) (lv' := [(0, .ref a0), (1, .int x1)]) (st' := [.int (i32 4), .int x1]) rfl ?_
  exact wp_cmp ⟨rfl, rfl⟩ rfl (fun hc => wp_weak (re_sb_at rfl (re_sb_at rfl (re_sb_nil _))) (K1 (ic1_lt hc))) (fun hc => wp_weak (re_sb_nil _) (K2 (ic0_lt hc)))
theorem B11_9 {SC : List Value} {d s : Nat} {h : re_H} {Q : Nat → Value → re_H → Prop} 
    (hs : 0 < s) (K : Q 5 .null h) : wp SC 11 d s 9 [] [] h Q := by
  exact wp_throw rfl hs (by simp [re_cat, vc_i, vc_l, vc_r, vc_n, vc_a]) K
theorem B11_19 {SC : List Value} {d s : Nat} {h : re_H} {Q : Nat → Value → re_H → Prop} {a0 : Nat} {x1 : Int32}
    {c : Nat} {w : List Value} (eg : re_hg h a0 = some (c, w)) (ec : c = 0) {s1 s2 : Nat} (hs : s1 + s2 ≤ s) (K : wp SC 9 d s1 0 [(0, .ref a0), (1, .int (i32 2))] [] h (wp_ret SC 11 (d + 1) s2 24 [(0, .ref a0), (1, .int x1)] [] Q)) : wp SC 11 (d + 1) s 19 [(0, .ref a0), (1, .int x1)] [] h Q := by
  refine wp_run 2 (pc' := 21) (lv' := [(0, .ref a0), (1, .int x1)]) (st' := [.int (i32 2), .ref a0]) rfl ?_
  have eA : lv_args 0 (.ref a0 :: [.int (i32 2)].reverse) = [(0, .ref a0), (1, .int (i32 2))] := by simp [lv_args, vc_i, vc_l, vc_r, vc_n, vc_a]
  refine wp_callV (ar := [.int (i32 2)]) (rest := []) (s1 := s1) (s2 := s2) (d' := d) ⟨rfl, rfl⟩ rfl (Or.inl rfl)  (by simp [re_cat, vc_i, vc_l, vc_r, vc_n, vc_a]) (by rw [show re_cat (.ref a0 :: [.int (i32 2)].reverse) = 2 from by simp [re_cat, vc_i, vc_l, vc_r, vc_n, vc_a]]; decide) (by decide) rfl eg ec rfl hs ?_
  rw [eA]
  exact wp_mono K (fun k v h' z => wp_ret_weak (re_sb_at rfl (re_sb_at rfl (re_sb_nil _))) z)
theorem B11_24 {SC : List Value} {d s : Nat} {h : re_H} {Q : Nat → Value → re_H → Prop} {a0 : Nat} {x1 : Int32}
    {c : Nat} {w : List Value} (eg : re_hg h a0 = some (c, w)) (ec : c = 0) (K : wp SC 10 d 0 0 [(0, .ref a0)] [] h (wp_ret SC 11 (d + 1) s 28 [(0, .ref a0), (1, .int x1)] [] Q)) : wp SC 11 (d + 1) s 24 [(0, .ref a0), (1, .int x1)] [] h Q := by
  refine wp_run 1 (pc' := 25) (lv' := [(0, .ref a0), (1, .int x1)]) (st' := [.ref a0]) rfl ?_
  have eA : lv_args 0 (.ref a0 :: [].reverse) = [(0, .ref a0)] := by simp [lv_args, vc_i, vc_l, vc_r, vc_n, vc_a]
  refine wp_callV (ar := []) (rest := []) (s1 := 0) (s2 := s) (d' := d) ⟨rfl, rfl⟩ rfl (Or.inl rfl)  (by simp [re_cat, vc_i, vc_l, vc_r, vc_n, vc_a]) (by rw [show re_cat (.ref a0 :: [].reverse) = 1 from by simp [re_cat, vc_i, vc_l, vc_r, vc_n, vc_a]]; decide) (by decide) rfl eg ec rfl (Nat.le_of_eq (Nat.zero_add s)) ?_
  rw [eA]
  exact wp_mono K (fun k v h' z => wp_ret_weak (re_sb_at rfl (re_sb_at rfl (re_sb_nil _))) z)
theorem B11_28 {SC : List Value} {d s : Nat} {h : re_H} {Q : Nat → Value → re_H → Prop} {a0 : Nat} {x1 : Int32} {vs0 : Value} (rs0 : re_R vs0)
    {c : Nat} {w : List Value} (eg : re_hg h a0 = some (c, w)) (ec : c = 0) (K : wp SC 10 d 0 0 [(0, .ref a0)] [] h (wp_ret SC 11 (d + 1) s 33 [(0, .ref a0), (1, .int x1), (2, vs0)] [] Q)) : wp SC 11 (d + 1) s 28 [(0, .ref a0), (1, .int x1)] [vs0] h Q := by
  refine wp_asR (ins := .astore_n 2) (k := 2) (pc' := 29) (lv' := [(2, vs0), (0, .ref a0), (1, .int x1)]) ⟨rfl, rfl⟩ (Or.inr ⟨_, rfl, rfl, rfl⟩) (by decide) rs0 rfl ?_
  refine wp_run 1 (pc' := 30) (lv' := [(2, vs0), (0, .ref a0), (1, .int x1)]) (st' := [.ref a0]) rfl ?_
  have eA : lv_args 0 (.ref a0 :: [].reverse) = [(0, .ref a0)] := by simp [lv_args, vc_i, vc_l, vc_r, vc_n, vc_a]
  refine wp_callV (ar := []) (rest := []) (s1 := 0) (s2 := s) (d' := d) ⟨rfl, rfl⟩ rfl (Or.inl rfl)  (by simp [re_cat, vc_i, vc_l, vc_r, vc_n, vc_a]) (by rw [show re_cat (.ref a0 :: [].reverse) = 1 from by simp [re_cat, vc_i, vc_l, vc_r, vc_n, vc_a]]; decide) (by decide) rfl eg ec rfl (Nat.le_of_eq (Nat.zero_add s)) ?_
  rw [eA]
  exact wp_mono K (fun k v h' z => wp_ret_weak (re_sb_at rfl (re_sb_at rfl (re_sb_at rfl (re_sb_nil _)))) z)
theorem B11_33 {SC : List Value} {d s : Nat} {h : re_H} {Q : Nat → Value → re_H → Prop} {a0 : Nat} {x1 : Int32} {v2 : Value} (r2 : re_R v2) {vs0 : Value} (rs0 : re_R vs0)
    (K : wp SC 11 d s 38 [(1, .int x1), (2, v2), (3, vs0)] [.ref h.1, .ref a0] (re_hq h (9, [.int 0, .int 0, .long 0, .null, .null, .null, .int 0, .int 0, .int 0, .int 0, .int 0])) Q) : wp SC 11 d s 33 [(0, .ref a0), (1, .int x1), (2, v2)] [vs0] h Q := by
  refine wp_asR (ins := .astore_n 3) (k := 3) (pc' := 34) (lv' := [(3, vs0), (0, .ref a0), (1, .int x1), (2, v2)]) ⟨rfl, rfl⟩ (Or.inr ⟨_, rfl, rfl, rfl⟩) (by decide) rs0 (by simp [re_s1, re_c2, re_lk, vc_i, vc_l, vc_r, vc_n, vc_a, re_R_cat r2]) ?_
  refine wp_run 1 (pc' := 35) (lv' := [(3, vs0), (0, .ref a0), (1, .int x1), (2, v2)]) (st' := [.ref a0]) rfl ?_
  exact wp_new (vs := [.int 0, .int 0, .long 0, .null, .null, .null, .int 0, .int 0, .int 0, .int 0, .int 0]) ⟨rfl, rfl⟩ rfl (by decide) (by decide) (wp_weak (re_sb_at rfl (re_sb_at rfl (re_sb_at rfl (re_sb_nil _)))) K)
theorem B11_38 {SC : List Value} {d s : Nat} {h : re_H} {Q : Nat → Value → re_H → Prop} {x1 : Int32} {v2 : Value} (r2 : re_R v2) {v3 : Value} (r3 : re_R v3) {as0 : Nat} {as1 : Nat}
    {c : Nat} {w : List Value} (eg : re_hg h as0 = some (c, w)) (ec : c = 9) (K : wp SC 640 d 0 0 [(0, .ref as0), (1, .int (i32 4)), (2, .int x1), (3, .long (0)), (5, v3), (6, v2), (7, .null)] [] h (wp_ret SC 11 (d + 1) s 48 [] [.ref as0, .ref as1] Q)) : wp SC 11 (d + 1) s 38 [(1, .int x1), (2, v2), (3, v3)] [.ref as0, .ref as1] h Q := by
  refine wp_run 4 (pc' := 42) (lv' := [(1, .int x1), (2, v2), (3, v3)]) (st' := [.long (0), .int x1, .int (i32 4), .ref as0, .ref as0, .ref as1]) rfl ?_
  refine wp_alR (ins := .aload_n 3) (k := 3) (pc' := 43) ⟨rfl, rfl⟩ (Or.inr ⟨_, rfl, rfl, rfl⟩) rfl r3 ?_
  refine wp_alR (ins := .aload_n 2) (k := 2) (pc' := 44) ⟨rfl, rfl⟩ (Or.inr ⟨_, rfl, rfl, rfl⟩) rfl r2 ?_
  refine wp_run 1 (pc' := 45) (lv' := [(1, .int x1), (2, v2), (3, v3)]) (st' := [.null, v2, v3, .long (0), .int x1, .int (i32 4), .ref as0, .ref as0, .ref as1]) rfl ?_
  have eA : lv_args 0 (.ref as0 :: [.null, v2, v3, .long (0), .int x1, .int (i32 4)].reverse) = [(0, .ref as0), (1, .int (i32 4)), (2, .int x1), (3, .long (0)), (5, v3), (6, v2), (7, .null)] := by simp [lv_args, vc_i, vc_l, vc_r, vc_n, vc_a, re_R_cat r2, re_R_cat r3]
  refine wp_callI (ar := [.null, v2, v3, .long (0), .int x1, .int (i32 4)]) (rest := [.ref as0, .ref as1]) (s1 := 0) (s2 := s) (d' := d) ⟨rfl, rfl⟩ rfl (Or.inl rfl)  (by simp [re_cat, vc_i, vc_l, vc_r, vc_n, vc_a]) (by rw [show re_cat (.ref as0 :: [.null, v2, v3, .long (0), .int x1, .int (i32 4)].reverse) = 8 from by simp [re_cat, vc_i, vc_l, vc_r, vc_n, vc_a, re_R_cat r2, re_R_cat r3]]; decide) (by decide) rfl eg ec rfl (Nat.le_of_eq (Nat.zero_add s)) ?_
  rw [eA]
  exact wp_mono K (fun k v h' z => wp_ret_weak (re_sb_nil _) z)
theorem B11_48 {SC : List Value} {d s : Nat} {h : re_H} {Q : Nat → Value → re_H → Prop} {as0 : Nat} {as1 : Nat}
    {c : Nat} {w : List Value} (eg : re_hg h as1 = some (c, w)) (ec : c = 0) (K : wp SC 3 d 0 0 [(0, .ref as1), (1, .ref as0)] [] h (wp_ret SC 11 (d + 1) s 51 [] [] Q)) : wp SC 11 (d + 1) s 48 [] [.ref as0, .ref as1] h Q := by
  have eA : lv_args 0 (.ref as1 :: [.ref as0].reverse) = [(0, .ref as1), (1, .ref as0)] := by simp [lv_args, vc_i, vc_l, vc_r, vc_n, vc_a]
  refine wp_callV (ar := [.ref as0]) (rest := []) (s1 := 0) (s2 := s) (d' := d) ⟨rfl, rfl⟩ rfl (Or.inl rfl)  (by simp [re_cat, vc_i, vc_l, vc_r, vc_n, vc_a]) (by rw [show re_cat (.ref as1 :: [.ref as0].reverse) = 2 from by simp [re_cat, vc_i, vc_l, vc_r, vc_n, vc_a]]; decide) (by decide) rfl eg ec rfl (Nat.le_of_eq (Nat.zero_add s)) ?_
  rw [eA]
  exact wp_mono K (fun k v h' z => wp_ret_weak (re_sb_nil _) z)
theorem B11_51 {SC : List Value} {d s : Nat} {h : re_H} {Q : Nat → Value → re_H → Prop} {xs0 : Int32}
    (K : Q 1 (.int xs0) h) : wp SC 11 d s 51 [] [.int xs0] h Q := by
  exact wp_reti ⟨rfl, rfl⟩ rfl K
theorem B12_0 {SC : List Value} {d s : Nat} {h : re_H} {Q : Nat → Value → re_H → Prop} {a0 : Nat}
    {c : Nat} {w : List Value} (eg : re_hg h a0 = some (c, w)) (ec : c = 0) {s1 s2 : Nat} (hs : s1 + s2 ≤ s) (K : wp SC 9 d s1 0 [(0, .ref a0), (1, .int (i32 3))] [] h (wp_ret SC 12 (d + 1) s2 5 [(0, .ref a0)] [] Q)) : wp SC 12 (d + 1) s 0 [(0, .ref a0)] [] h Q := by
  refine wp_run 2 (pc' := 2) (lv' := [(0, .ref a0)]) (st' := [.int (i32 3), .ref a0]) rfl ?_
  have eA : lv_args 0 (.ref a0 :: [.int (i32 3)].reverse) = [(0, .ref a0), (1, .int (i32 3))] := by simp [lv_args, vc_i, vc_l, vc_r, vc_n, vc_a]
  refine wp_callV (ar := [.int (i32 3)]) (rest := []) (s1 := s1) (s2 := s2) (d' := d) ⟨rfl, rfl⟩ rfl (Or.inl rfl)  (by simp [re_cat, vc_i, vc_l, vc_r, vc_n, vc_a]) (by rw [show re_cat (.ref a0 :: [.int (i32 3)].reverse) = 2 from by simp [re_cat, vc_i, vc_l, vc_r, vc_n, vc_a]]; decide) (by decide) rfl eg ec rfl hs ?_
  rw [eA]
  exact wp_mono K (fun k v h' z => wp_ret_weak (re_sb_at rfl (re_sb_nil _)) z)
theorem B12_5 {SC : List Value} {d s : Nat} {h : re_H} {Q : Nat → Value → re_H → Prop} {a0 : Nat}
    {c : Nat} {w : List Value} (eg : re_hg h a0 = some (c, w)) (ec : c = 0) (K : wp SC 10 d 0 0 [(0, .ref a0)] [] h (wp_ret SC 12 (d + 1) s 9 [(0, .ref a0)] [] Q)) : wp SC 12 (d + 1) s 5 [(0, .ref a0)] [] h Q := by
  refine wp_run 1 (pc' := 6) (lv' := [(0, .ref a0)]) (st' := [.ref a0]) rfl ?_
  have eA : lv_args 0 (.ref a0 :: [].reverse) = [(0, .ref a0)] := by simp [lv_args, vc_i, vc_l, vc_r, vc_n, vc_a]
  refine wp_callV (ar := []) (rest := []) (s1 := 0) (s2 := s) (d' := d) ⟨rfl, rfl⟩ rfl (Or.inl rfl)  (by simp [re_cat, vc_i, vc_l, vc_r, vc_n, vc_a]) (by rw [show re_cat (.ref a0 :: [].reverse) = 1 from by simp [re_cat, vc_i, vc_l, vc_r, vc_n, vc_a]]; decide) (by decide) rfl eg ec rfl (Nat.le_of_eq (Nat.zero_add s)) ?_
  rw [eA]
  exact wp_mono K (fun k v h' z => wp_ret_weak (re_sb_at rfl (re_sb_nil _)) z)
theorem B12_9 {SC : List Value} {d s : Nat} {h : re_H} {Q : Nat → Value → re_H → Prop} {a0 : Nat} {vs0 : Value} (rs0 : re_R vs0)
    {c : Nat} {w : List Value} (eg : re_hg h a0 = some (c, w)) (ec : c = 0) (K : wp SC 10 d 0 0 [(0, .ref a0)] [] h (wp_ret SC 12 (d + 1) s 14 [(0, .ref a0), (1, vs0)] [] Q)) : wp SC 12 (d + 1) s 9 [(0, .ref a0)] [vs0] h Q := by
  refine wp_asR (ins := .astore_n 1) (k := 1) (pc' := 10) (lv' := [(1, vs0), (0, .ref a0)]) ⟨rfl, rfl⟩ (Or.inr ⟨_, rfl, rfl, rfl⟩) (by decide) rs0 rfl ?_
  refine wp_run 1 (pc' := 11) (lv' := [(1, vs0), (0, .ref a0)]) (st' := [.ref a0]) rfl ?_
  have eA : lv_args 0 (.ref a0 :: [].reverse) = [(0, .ref a0)] := by simp [lv_args, vc_i, vc_l, vc_r, vc_n, vc_a]
  refine wp_callV (ar := []) (rest := []) (s1 := 0) (s2 := s) (d' := d) ⟨rfl, rfl⟩ rfl (Or.inl rfl)  (by simp [re_cat, vc_i, vc_l, vc_r, vc_n, vc_a]) (by rw [show re_cat (.ref a0 :: [].reverse) = 1 from by simp [re_cat, vc_i, vc_l, vc_r, vc_n, vc_a]]; decide) (by decide) rfl eg ec rfl (Nat.le_of_eq (Nat.zero_add s)) ?_
  rw [eA]
  exact wp_mono K (fun k v h' z => wp_ret_weak (re_sb_at rfl (re_sb_at rfl (re_sb_nil _))) z)
theorem B12_14 {SC : List Value} {d s : Nat} {h : re_H} {Q : Nat → Value → re_H → Prop} {a0 : Nat} {v1 : Value} (r1 : re_R v1) {vs0 : Value} (rs0 : re_R vs0)
    {c : Nat} {w : List Value} (eg : re_hg h a0 = some (c, w)) (ec : c = 0) (K : wp SC 10 d 0 0 [(0, .ref a0)] [] h (wp_ret SC 12 (d + 1) s 19 [(0, .ref a0), (1, v1), (2, vs0)] [] Q)) : wp SC 12 (d + 1) s 14 [(0, .ref a0), (1, v1)] [vs0] h Q := by
  refine wp_asR (ins := .astore_n 2) (k := 2) (pc' := 15) (lv' := [(2, vs0), (0, .ref a0), (1, v1)]) ⟨rfl, rfl⟩ (Or.inr ⟨_, rfl, rfl, rfl⟩) (by decide) rs0 (by simp [re_s1, re_c2, re_lk, vc_i, vc_l, vc_r, vc_n, vc_a, re_R_cat r1]) ?_
  refine wp_run 1 (pc' := 16) (lv' := [(2, vs0), (0, .ref a0), (1, v1)]) (st' := [.ref a0]) rfl ?_
  have eA : lv_args 0 (.ref a0 :: [].reverse) = [(0, .ref a0)] := by simp [lv_args, vc_i, vc_l, vc_r, vc_n, vc_a]
  refine wp_callV (ar := []) (rest := []) (s1 := 0) (s2 := s) (d' := d) ⟨rfl, rfl⟩ rfl (Or.inl rfl)  (by simp [re_cat, vc_i, vc_l, vc_r, vc_n, vc_a]) (by rw [show re_cat (.ref a0 :: [].reverse) = 1 from by simp [re_cat, vc_i, vc_l, vc_r, vc_n, vc_a]]; decide) (by decide) rfl eg ec rfl (Nat.le_of_eq (Nat.zero_add s)) ?_
  rw [eA]
  exact wp_mono K (fun k v h' z => wp_ret_weak (re_sb_at rfl (re_sb_at rfl (re_sb_at rfl (re_sb_nil _)))) z)
theorem B12_19 {SC : List Value} {d s : Nat} {h : re_H} {Q : Nat → Value → re_H → Prop} {a0 : Nat} {v1 : Value} (r1 : re_R v1) {v2 : Value} (r2 : re_R v2) {vs0 : Value} (rs0 : re_R vs0)
    (K : wp SC 12 d s 24 [(1, v1), (2, v2), (3, vs0)] [.ref h.1, .ref a0] (re_hq h (9, [.int 0, .int 0, .long 0, .null, .null, .null, .int 0, .int 0, .int 0, .int 0, .int 0])) Q) : wp SC 12 d s 19 [(0, .ref a0), (1, v1), (2, v2)] [vs0] h Q := by
  refine wp_asR (ins := .astore_n 3) (k := 3) (pc' := 20) (lv' := [(3, vs0), (0, .ref a0), (1, v1), (2, v2)]) ⟨rfl, rfl⟩ (Or.inr ⟨_, rfl, rfl, rfl⟩) (by decide) rs0 (by simp [re_s1, re_c2, re_lk, vc_i, vc_l, vc_r, vc_n, vc_a, re_R_cat r2]) ?_
  refine wp_run 1 (pc' := 21) (lv' := [(3, vs0), (0, .ref a0), (1, v1), (2, v2)]) (st' := [.ref a0]) rfl ?_
  exact wp_new (vs := [.int 0, .int 0, .long 0, .null, .null, .null, .int 0, .int 0, .int 0, .int 0, .int 0]) ⟨rfl, rfl⟩ rfl (by decide) (by decide) (wp_weak (re_sb_at rfl (re_sb_at rfl (re_sb_at rfl (re_sb_nil _)))) K)
theorem B12_24 {SC : List Value} {d s : Nat} {h : re_H} {Q : Nat → Value → re_H → Prop} {v1 : Value} (r1 : re_R v1) {v2 : Value} (r2 : re_R v2) {v3 : Value} (r3 : re_R v3) {as0 : Nat} {as1 : Nat}
    {c : Nat} {w : List Value} (eg : re_hg h as0 = some (c, w)) (ec : c = 9) (K : wp SC 640 d 0 0 [(0, .ref as0), (1, .int (i32 5)), (2, .int (i32 0)), (3, .long (0)), (5, v3), (6, v2), (7, v1)] [] h (wp_ret SC 12 (d + 1) s 34 [] [.ref as0, .ref as1] Q)) : wp SC 12 (d + 1) s 24 [(1, v1), (2, v2), (3, v3)] [.ref as0, .ref as1] h Q := by
  refine wp_run 4 (pc' := 28) (lv' := [(1, v1), (2, v2), (3, v3)]) (st' := [.long (0), .int (i32 0), .int (i32 5), .ref as0, .ref as0, .ref as1]) rfl ?_
  refine wp_alR (ins := .aload_n 3) (k := 3) (pc' := 29) ⟨rfl, rfl⟩ (Or.inr ⟨_, rfl, rfl, rfl⟩) rfl r3 ?_
  refine wp_alR (ins := .aload_n 2) (k := 2) (pc' := 30) ⟨rfl, rfl⟩ (Or.inr ⟨_, rfl, rfl, rfl⟩) rfl r2 ?_
  refine wp_alR (ins := .aload_n 1) (k := 1) (pc' := 31) ⟨rfl, rfl⟩ (Or.inr ⟨_, rfl, rfl, rfl⟩) rfl r1 ?_
  have eA : lv_args 0 (.ref as0 :: [v1, v2, v3, .long (0), .int (i32 0), .int (i32 5)].reverse) = [(0, .ref as0), (1, .int (i32 5)), (2, .int (i32 0)), (3, .long (0)), (5, v3), (6, v2), (7, v1)] := by simp [lv_args, vc_i, vc_l, vc_r, vc_n, vc_a, re_R_cat r1, re_R_cat r2, re_R_cat r3]
  refine wp_callI (ar := [v1, v2, v3, .long (0), .int (i32 0), .int (i32 5)]) (rest := [.ref as0, .ref as1]) (s1 := 0) (s2 := s) (d' := d) ⟨rfl, rfl⟩ rfl (Or.inl rfl)  (by simp [re_cat, vc_i, vc_l, vc_r, vc_n, vc_a]) (by rw [show re_cat (.ref as0 :: [v1, v2, v3, .long (0), .int (i32 0), .int (i32 5)].reverse) = 8 from by simp [re_cat, vc_i, vc_l, vc_r, vc_n, vc_a, re_R_cat r1, re_R_cat r2, re_R_cat r3]]; decide) (by decide) rfl eg ec rfl (Nat.le_of_eq (Nat.zero_add s)) ?_
  rw [eA]
  exact wp_mono K (fun k v h' z => wp_ret_weak (re_sb_nil _) z)
theorem B12_34 {SC : List Value} {d s : Nat} {h : re_H} {Q : Nat → Value → re_H → Prop} {as0 : Nat} {as1 : Nat}
    {c : Nat} {w : List Value} (eg : re_hg h as1 = some (c, w)) (ec : c = 0) (K : wp SC 3 d 0 0 [(0, .ref as1), (1, .ref as0)] [] h (wp_ret SC 12 (d + 1) s 37 [] [] Q)) : wp SC 12 (d + 1) s 34 [] [.ref as0, .ref as1] h Q := by
  have eA : lv_args 0 (.ref as1 :: [.ref as0].reverse) = [(0, .ref as1), (1, .ref as0)] := by simp [lv_args, vc_i, vc_l, vc_r, vc_n, vc_a]
  refine wp_callV (ar := [.ref as0]) (rest := []) (s1 := 0) (s2 := s) (d' := d) ⟨rfl, rfl⟩ rfl (Or.inl rfl)  (by simp [re_cat, vc_i, vc_l, vc_r, vc_n, vc_a]) (by rw [show re_cat (.ref as1 :: [.ref as0].reverse) = 2 from by simp [re_cat, vc_i, vc_l, vc_r, vc_n, vc_a]]; decide) (by decide) rfl eg ec rfl (Nat.le_of_eq (Nat.zero_add s)) ?_
  rw [eA]
  exact wp_mono K (fun k v h' z => wp_ret_weak (re_sb_nil _) z)
theorem B12_37 {SC : List Value} {d s : Nat} {h : re_H} {Q : Nat → Value → re_H → Prop} {xs0 : Int32}
    (K : Q 1 (.int xs0) h) : wp SC 12 d s 37 [] [.int xs0] h Q := by
  exact wp_reti ⟨rfl, rfl⟩ rfl K
theorem B13_0 {SC : List Value} {d s : Nat} {h : re_H} {Q : Nat → Value → re_H → Prop} {a0 : Nat} {x1 : Int32}
    {c : Nat} {w : List Value} (eg : re_hg h a0 = some (c, w)) (ec : c = 0) {s1 s2 : Nat} (hs : s1 + s2 ≤ s) (K : wp SC 5 d s1 0 [(0, .ref a0), (1, .int x1)] [] h (wp_ret SC 13 (d + 1) s2 5 [(0, .ref a0), (1, .int x1)] [] Q)) : wp SC 13 (d + 1) s 0 [(0, .ref a0), (1, .int x1)] [] h Q := by
  refine wp_run 2 (pc' := 2) (lv' := [(0, .ref a0), (1, .int x1)]) (st' := [.int x1, .ref a0]) rfl ?_
  have eA : lv_args 0 (.ref a0 :: [.int x1].reverse) = [(0, .ref a0), (1, .int x1)] := by simp [lv_args, vc_i, vc_l, vc_r, vc_n, vc_a]
  refine wp_callV (ar := [.int x1]) (rest := []) (s1 := s1) (s2 := s2) (d' := d) ⟨rfl, rfl⟩ rfl (Or.inl rfl)  (by simp [re_cat, vc_i, vc_l, vc_r, vc_n, vc_a]) (by rw [show re_cat (.ref a0 :: [.int x1].reverse) = 2 from by simp [re_cat, vc_i, vc_l, vc_r, vc_n, vc_a]]; decide) (by decide) rfl eg ec rfl hs ?_
  rw [eA]
  exact wp_mono K (fun k v h' z => wp_ret_weak (re_sb_at rfl (re_sb_at rfl (re_sb_nil _))) z)
theorem B13_5 {SC : List Value} {d s : Nat} {h : re_H} {Q : Nat → Value → re_H → Prop} {a0 : Nat} {x1 : Int32}
    {c : Nat} {w : List Value} (eg : re_hg h a0 = some (c, w)) (ec : c = 0) {s1 s2 : Nat} (hs : s1 + s2 ≤ s) (K : wp SC 9 d s1 0 [(0, .ref a0), (1, .int (i32 2))] [] h (wp_ret SC 13 (d + 1) s2 10 [(0, .ref a0), (1, .int x1)] [] Q)) : wp SC 13 (d + 1) s 5 [(0, .ref a0), (1, .int x1)] [] h Q := by
  refine wp_run 2 (pc' := 7) (lv' := [(0, .ref a0), (1, .int x1)]) (st' := [.int (i32 2), .ref a0]) rfl ?_
  have eA : lv_args 0 (.ref a0 :: [.int (i32 2)].reverse) = [(0, .ref a0), (1, .int (i32 2))] := by simp [lv_args, vc_i, vc_l, vc_r, vc_n, vc_a]
  refine wp_callV (ar := [.int (i32 2)]) (rest := []) (s1 := s1) (s2 := s2) (d' := d) ⟨rfl, rfl⟩ rfl (Or.inl rfl)  (by simp [re_cat, vc_i, vc_l, vc_r, vc_n, vc_a]) (by rw [show re_cat (.ref a0 :: [.int (i32 2)].reverse) = 2 from by simp [re_cat, vc_i, vc_l, vc_r, vc_n, vc_a]]; decide) (by decide) rfl eg ec rfl hs ?_
  rw [eA]
  exact wp_mono K (fun k v h' z => wp_ret_weak (re_sb_at rfl (re_sb_at rfl (re_sb_nil _))) z)
theorem B13_10 {SC : List Value} {d s : Nat} {h : re_H} {Q : Nat → Value → re_H → Prop} {a0 : Nat} {x1 : Int32}
    {c : Nat} {w : List Value} (eg : re_hg h a0 = some (c, w)) (ec : c = 0) (K : wp SC 10 d 0 0 [(0, .ref a0)] [] h (wp_ret SC 13 (d + 1) s 14 [(0, .ref a0), (1, .int x1)] [] Q)) : wp SC 13 (d + 1) s 10 [(0, .ref a0), (1, .int x1)] [] h Q := by
  refine wp_run 1 (pc' := 11) (lv' := [(0, .ref a0), (1, .int x1)]) (st' := [.ref a0]) rfl ?_
  have eA : lv_args 0 (.ref a0 :: [].reverse) = [(0, .ref a0)] := by simp [lv_args, vc_i, vc_l, vc_r, vc_n, vc_a]
  refine wp_callV (ar := []) (rest := []) (s1 := 0) (s2 := s) (d' := d) ⟨rfl, rfl⟩ rfl (Or.inl rfl)  (by simp [re_cat, vc_i, vc_l, vc_r, vc_n, vc_a]) (by rw [show re_cat (.ref a0 :: [].reverse) = 1 from by simp [re_cat, vc_i, vc_l, vc_r, vc_n, vc_a]]; decide) (by decide) rfl eg ec rfl (Nat.le_of_eq (Nat.zero_add s)) ?_
  rw [eA]
  exact wp_mono K (fun k v h' z => wp_ret_weak (re_sb_at rfl (re_sb_at rfl (re_sb_nil _))) z)
theorem B13_14 {SC : List Value} {d s : Nat} {h : re_H} {Q : Nat → Value → re_H → Prop} {a0 : Nat} {x1 : Int32} {vs0 : Value} (rs0 : re_R vs0)
    {c : Nat} {w : List Value} (eg : re_hg h a0 = some (c, w)) (ec : c = 0) (K : wp SC 10 d 0 0 [(0, .ref a0)] [] h (wp_ret SC 13 (d + 1) s 19 [(0, .ref a0), (1, .int x1), (2, vs0)] [] Q)) : wp SC 13 (d + 1) s 14 [(0, .ref a0), (1, .int x1)] [vs0] h Q := by
  refine wp_asR (ins := .astore_n 2) (k := 2) (pc' := 15) (lv' := [(2, vs0), (0, .ref a0), (1, .int x1)]) ⟨rfl, rfl⟩ (Or.inr ⟨_, rfl, rfl, rfl⟩) (by decide) rs0 rfl ?_
  refine wp_run 1 (pc' := 16) (lv' := [(2, vs0), (0, .ref a0), (1, .int x1)]) (st' := [.ref a0]) rfl ?_
  have eA : lv_args 0 (.ref a0 :: [].reverse) = [(0, .ref a0)] := by simp [lv_args, vc_i, vc_l, vc_r, vc_n, vc_a]
  refine wp_callV (ar := []) (rest := []) (s1 := 0) (s2 := s) (d' := d) ⟨rfl, rfl⟩ rfl (Or.inl rfl)  (by simp [re_cat, vc_i, vc_l, vc_r, vc_n, vc_a]) (by rw [show re_cat (.ref a0 :: [].reverse) = 1 from by simp [re_cat, vc_i, vc_l, vc_r, vc_n, vc_a]]; decide) (by decide) rfl eg ec rfl (Nat.le_of_eq (Nat.zero_add s)) ?_
  rw [eA]
  exact wp_mono K (fun k v h' z => wp_ret_weak (re_sb_at rfl (re_sb_at rfl (re_sb_at rfl (re_sb_nil _)))) z)
theorem B13_19 {SC : List Value} {d s : Nat} {h : re_H} {Q : Nat → Value → re_H → Prop} {a0 : Nat} {x1 : Int32} {v2 : Value} (r2 : re_R v2) {vs0 : Value} (rs0 : re_R vs0)
    (K : wp SC 13 d s 24 [(1, .int x1), (2, v2), (3, vs0)] [.ref h.1, .ref a0] (re_hq h (9, [.int 0, .int 0, .long 0, .null, .null, .null, .int 0, .int 0, .int 0, .int 0, .int 0])) Q) : wp SC 13 d s 19 [(0, .ref a0), (1, .int x1), (2, v2)] [vs0] h Q := by
  refine wp_asR (ins := .astore_n 3) (k := 3) (pc' := 20) (lv' := [(3, vs0), (0, .ref a0), (1, .int x1), (2, v2)]) ⟨rfl, rfl⟩ (Or.inr ⟨_, rfl, rfl, rfl⟩) (by decide) rs0 (by simp [re_s1, re_c2, re_lk, vc_i, vc_l, vc_r, vc_n, vc_a, re_R_cat r2]) ?_
  refine wp_run 1 (pc' := 21) (lv' := [(3, vs0), (0, .ref a0), (1, .int x1), (2, v2)]) (st' := [.ref a0]) rfl ?_
  exact wp_new (vs := [.int 0, .int 0, .long 0, .null, .null, .null, .int 0, .int 0, .int 0, .int 0, .int 0]) ⟨rfl, rfl⟩ rfl (by decide) (by decide) (wp_weak (re_sb_at rfl (re_sb_at rfl (re_sb_at rfl (re_sb_nil _)))) K)
theorem B13_24 {SC : List Value} {d s : Nat} {h : re_H} {Q : Nat → Value → re_H → Prop} {x1 : Int32} {v2 : Value} (r2 : re_R v2) {v3 : Value} (r3 : re_R v3) {as0 : Nat} {as1 : Nat}
    {c : Nat} {w : List Value} (eg : re_hg h as0 = some (c, w)) (ec : c = 9) (K : wp SC 640 d 0 0 [(0, .ref as0), (1, .int (i32 6)), (2, .int x1), (3, .long (0)), (5, v3), (6, v2), (7, .null)] [] h (wp_ret SC 13 (d + 1) s 35 [] [.ref as0, .ref as1] Q)) : wp SC 13 (d + 1) s 24 [(1, .int x1), (2, v2), (3, v3)] [.ref as0, .ref as1] h Q := by
  refine wp_run 1 (pc' := 25) (lv' := [(1, .int x1), (2, v2), (3, v3)]) (st' := [.ref as0, .ref as0, .ref as1]) rfl ?_
  refine wp_bi (x := (i32 6)) ⟨rfl, rfl⟩ (by decide) ?_
  refine wp_run 2 (pc' := 29) (lv' := [(1, .int x1), (2, v2), (3, v3)]) (st' := [.long (0), .int x1, .int (i32 6), .ref as0, .ref as0, .ref as1]) rfl ?_
  refine wp_alR (ins := .aload_n 3) (k := 3) (pc' := 30) ⟨rfl, rfl⟩ (Or.inr ⟨_, rfl, rfl, rfl⟩) rfl r3 ?_
  refine wp_alR (ins := .aload_n 2) (k := 2) (pc' := 31) ⟨rfl, rfl⟩ (Or.inr ⟨_, rfl, rfl, rfl⟩) rfl r2 ?_
  refine wp_run 1 (pc' := 32) (lv' := [(1, .int x1), (2, v2), (3, v3)]) (st' := [.null, v2, v3, .long (0), .int x1, .int (i32 6), .ref as0, .ref as0, .ref as1]) rfl ?_
  have eA : lv_args 0 (.ref as0 :: [.null, v2, v3, .long (0), .int x1, .int (i32 6)].reverse) = [(0, .ref as0), (1, .int (i32 6)), (2, .int x1), (3, .long (0)), (5, v3), (6, v2), (7, .null)] := by simp [lv_args, vc_i, vc_l, vc_r, vc_n, vc_a, re_R_cat r2, re_R_cat r3]
  refine wp_callI (ar := [.null, v2, v3, .long (0), .int x1, .int (i32 6)]) (rest := [.ref as0, .ref as1]) (s1 := 0) (s2 := s) (d' := d) ⟨rfl, rfl⟩ rfl (Or.inl rfl)  (by simp [re_cat, vc_i, vc_l, vc_r, vc_n, vc_a]) (by rw [show re_cat (.ref as0 :: [.null, v2, v3, .long (0), .int x1, .int (i32 6)].reverse) = 8 from by simp [re_cat, vc_i, vc_l, vc_r, vc_n, vc_a, re_R_cat r2, re_R_cat r3]]; decide) (by decide) rfl eg ec rfl (Nat.le_of_eq (Nat.zero_add s)) ?_
  rw [eA]
  exact wp_mono K (fun k v h' z => wp_ret_weak (re_sb_nil _) z)
theorem B13_35 {SC : List Value} {d s : Nat} {h : re_H} {Q : Nat → Value → re_H → Prop} {as0 : Nat} {as1 : Nat}
    {c : Nat} {w : List Value} (eg : re_hg h as1 = some (c, w)) (ec : c = 0) (K : wp SC 3 d 0 0 [(0, .ref as1), (1, .ref as0)] [] h (wp_ret SC 13 (d + 1) s 38 [] [] Q)) : wp SC 13 (d + 1) s 35 [] [.ref as0, .ref as1] h Q := by
  have eA : lv_args 0 (.ref as1 :: [.ref as0].reverse) = [(0, .ref as1), (1, .ref as0)] := by simp [lv_args, vc_i, vc_l, vc_r, vc_n, vc_a]
  refine wp_callV (ar := [.ref as0]) (rest := []) (s1 := 0) (s2 := s) (d' := d) ⟨rfl, rfl⟩ rfl (Or.inl rfl)  (by simp [re_cat, vc_i, vc_l, vc_r, vc_n, vc_a]) (by rw [show re_cat (.ref as1 :: [.ref as0].reverse) = 2 from by simp [re_cat, vc_i, vc_l, vc_r, vc_n, vc_a]]; decide) (by decide) rfl eg ec rfl (Nat.le_of_eq (Nat.zero_add s)) ?_
  rw [eA]
  exact wp_mono K (fun k v h' z => wp_ret_weak (re_sb_nil _) z)
theorem B13_38 {SC : List Value} {d s : Nat} {h : re_H} {Q : Nat → Value → re_H → Prop} {xs0 : Int32}
    (K : Q 1 (.int xs0) h) : wp SC 13 d s 38 [] [.int xs0] h Q := by
  exact wp_reti ⟨rfl, rfl⟩ rfl K
theorem B14_0 {SC : List Value} {d s : Nat} {h : re_H} {Q : Nat → Value → re_H → Prop} {a0 : Nat} {x1 : Int32}
    {c : Nat} {w : List Value} (eg : re_hg h a0 = some (c, w)) (ec : c = 0) {s1 s2 : Nat} (hs : s1 + s2 ≤ s) (K : wp SC 5 d s1 0 [(0, .ref a0), (1, .int x1)] [] h (wp_ret SC 14 (d + 1) s2 5 [(0, .ref a0), (1, .int x1)] [] Q)) : wp SC 14 (d + 1) s 0 [(0, .ref a0), (1, .int x1)] [] h Q := by
  refine wp_run 2 (pc' := 2) (lv' := [(0, .ref a0), (1, .int x1)]) (st' := [.int x1, .ref a0]) rfl ?_
  have eA : lv_args 0 (.ref a0 :: [.int x1].reverse) = [(0, .ref a0), (1, .int x1)] := by simp [lv_args, vc_i, vc_l, vc_r, vc_n, vc_a]
  refine wp_callV (ar := [.int x1]) (rest := []) (s1 := s1) (s2 := s2) (d' := d) ⟨rfl, rfl⟩ rfl (Or.inl rfl)  (by simp [re_cat, vc_i, vc_l, vc_r, vc_n, vc_a]) (by rw [show re_cat (.ref a0 :: [.int x1].reverse) = 2 from by simp [re_cat, vc_i, vc_l, vc_r, vc_n, vc_a]]; decide) (by decide) rfl eg ec rfl hs ?_
  rw [eA]
  exact wp_mono K (fun k v h' z => wp_ret_weak (re_sb_at rfl (re_sb_at rfl (re_sb_nil _))) z)
theorem B14_5 {SC : List Value} {d s : Nat} {h : re_H} {Q : Nat → Value → re_H → Prop} {a0 : Nat} {x1 : Int32}
    {c : Nat} {w : List Value} (eg : re_hg h a0 = some (c, w)) (ec : c = 0) {s1 s2 : Nat} (hs : s1 + s2 ≤ s) (K : wp SC 9 d s1 0 [(0, .ref a0), (1, .int (i32 1))] [] h (wp_ret SC 14 (d + 1) s2 10 [(0, .ref a0), (1, .int x1)] [] Q)) : wp SC 14 (d + 1) s 5 [(0, .ref a0), (1, .int x1)] [] h Q := by
  refine wp_run 2 (pc' := 7) (lv' := [(0, .ref a0), (1, .int x1)]) (st' := [.int (i32 1), .ref a0]) rfl ?_
  have eA : lv_args 0 (.ref a0 :: [.int (i32 1)].reverse) = [(0, .ref a0), (1, .int (i32 1))] := by simp [lv_args, vc_i, vc_l, vc_r, vc_n, vc_a]
  refine wp_callV (ar := [.int (i32 1)]) (rest := []) (s1 := s1) (s2 := s2) (d' := d) ⟨rfl, rfl⟩ rfl (Or.inl rfl)  (by simp [re_cat, vc_i, vc_l, vc_r, vc_n, vc_a]) (by rw [show re_cat (.ref a0 :: [.int (i32 1)].reverse) = 2 from by simp [re_cat, vc_i, vc_l, vc_r, vc_n, vc_a]]; decide) (by decide) rfl eg ec rfl hs ?_
  rw [eA]
  exact wp_mono K (fun k v h' z => wp_ret_weak (re_sb_at rfl (re_sb_at rfl (re_sb_nil _))) z)
theorem B14_10 {SC : List Value} {d s : Nat} {h : re_H} {Q : Nat → Value → re_H → Prop} {a0 : Nat} {x1 : Int32}
    (K : wp SC 14 d s 14 [(0, .ref a0), (1, .int x1)] [.ref h.1, .ref a0] (re_hq h (9, [.int 0, .int 0, .long 0, .null, .null, .null, .int 0, .int 0, .int 0, .int 0, .int 0])) Q) : wp SC 14 d s 10 [(0, .ref a0), (1, .int x1)] [] h Q := by
  refine wp_run 1 (pc' := 11) (lv' := [(0, .ref a0), (1, .int x1)]) (st' := [.ref a0]) rfl ?_
  exact wp_new (vs := [.int 0, .int 0, .long 0, .null, .null, .null, .int 0, .int 0, .int 0, .int 0, .int 0]) ⟨rfl, rfl⟩ rfl (by decide) (by decide) (wp_weak (re_sb_at rfl (re_sb_at rfl (re_sb_nil _))) K)
theorem B14_14 {SC : List Value} {d s : Nat} {h : re_H} {Q : Nat → Value → re_H → Prop} {a0 : Nat} {x1 : Int32} {as0 : Nat} {as1 : Nat}
    {c : Nat} {w : List Value} (eg : re_hg h a0 = some (c, w)) (ec : c = 0) (K : wp SC 10 d 0 0 [(0, .ref a0)] [] h (wp_ret SC 14 (d + 1) s 24 [] [.null, .long (0), .int x1, .int (i32 7), .ref as0, .ref as0, .ref as1] Q)) : wp SC 14 (d + 1) s 14 [(0, .ref a0), (1, .int x1)] [.ref as0, .ref as1] h Q := by
  refine wp_run 1 (pc' := 15) (lv' := [(0, .ref a0), (1, .int x1)]) (st' := [.ref as0, .ref as0, .ref as1]) rfl ?_
  refine wp_bi (x := (i32 7)) ⟨rfl, rfl⟩ (by decide) ?_
  refine wp_run 4 (pc' := 21) (lv' := [(0, .ref a0), (1, .int x1)]) (st' := [.ref a0, .null, .long (0), .int x1, .int (i32 7), .ref as0, .ref as0, .ref as1]) rfl ?_
  have eA : lv_args 0 (.ref a0 :: [].reverse) = [(0, .ref a0)] := by simp [lv_args, vc_i, vc_l, vc_r, vc_n, vc_a]
  refine wp_callV (ar := []) (rest := [.null, .long (0), .int x1, .int (i32 7), .ref as0, .ref as0, .ref as1]) (s1 := 0) (s2 := s) (d' := d) ⟨rfl, rfl⟩ rfl (Or.inl rfl)  (by simp [re_cat, vc_i, vc_l, vc_r, vc_n, vc_a]) (by rw [show re_cat (.ref a0 :: [].reverse) = 1 from by simp [re_cat, vc_i, vc_l, vc_r, vc_n, vc_a]]; decide) (by decide) rfl eg ec rfl (Nat.le_of_eq (Nat.zero_add s)) ?_
  rw [eA]
  exact wp_mono K (fun k v h' z => wp_ret_weak (re_sb_nil _) z)
theorem B14_24 {SC : List Value} {d s : Nat} {h : re_H} {Q : Nat → Value → re_H → Prop} {vs0 : Value} (rs0 : re_R vs0) {vs1 : Value} (rs1 : re_R vs1) {ls2 : Int64} {xs3 : Int32} {xs4 : Int32} {as5 : Nat} {as6 : Nat} {as7 : Nat}
    {c : Nat} {w : List Value} (eg : re_hg h as5 = some (c, w)) (ec : c = 9) (K : wp SC 640 d 0 0 [(0, .ref as5), (1, .int xs4), (2, .int xs3), (3, .long ls2), (5, vs1), (6, vs0), (7, .null)] [] h (wp_ret SC 14 (d + 1) s 28 [] [.ref as6, .ref as7] Q)) : wp SC 14 (d + 1) s 24 [] [vs0, vs1, .long ls2, .int xs3, .int xs4, .ref as5, .ref as6, .ref as7] h Q := by
  refine wp_run 1 (pc' := 25) (lv' := []) (st' := [.null, vs0, vs1, .long ls2, .int xs3, .int xs4, .ref as5, .ref as6, .ref as7]) rfl ?_
  have eA : lv_args 0 (.ref as5 :: [.null, vs0, vs1, .long ls2, .int xs3, .int xs4].reverse) = [(0, .ref as5), (1, .int xs4), (2, .int xs3), (3, .long ls2), (5, vs1), (6, vs0), (7, .null)] := by simp [lv_args, vc_i, vc_l, vc_r, vc_n, vc_a, re_R_cat rs0, re_R_cat rs1]
  refine wp_callI (ar := [.null, vs0, vs1, .long ls2, .int xs3, .int xs4]) (rest := [.ref as6, .ref as7]) (s1 := 0) (s2 := s) (d' := d) ⟨rfl, rfl⟩ rfl (Or.inl rfl)  (by simp [re_cat, vc_i, vc_l, vc_r, vc_n, vc_a]) (by rw [show re_cat (.ref as5 :: [.null, vs0, vs1, .long ls2, .int xs3, .int xs4].reverse) = 8 from by simp [re_cat, vc_i, vc_l, vc_r, vc_n, vc_a, re_R_cat rs0, re_R_cat rs1]]; decide) (by decide) rfl eg ec rfl (Nat.le_of_eq (Nat.zero_add s)) ?_
  rw [eA]
  exact wp_mono K (fun k v h' z => wp_ret_weak (re_sb_nil _) z)
theorem B14_28 {SC : List Value} {d s : Nat} {h : re_H} {Q : Nat → Value → re_H → Prop} {as0 : Nat} {as1 : Nat}
    {c : Nat} {w : List Value} (eg : re_hg h as1 = some (c, w)) (ec : c = 0) (K : wp SC 3 d 0 0 [(0, .ref as1), (1, .ref as0)] [] h (wp_ret SC 14 (d + 1) s 31 [] [] Q)) : wp SC 14 (d + 1) s 28 [] [.ref as0, .ref as1] h Q := by
  have eA : lv_args 0 (.ref as1 :: [.ref as0].reverse) = [(0, .ref as1), (1, .ref as0)] := by simp [lv_args, vc_i, vc_l, vc_r, vc_n, vc_a]
  refine wp_callV (ar := [.ref as0]) (rest := []) (s1 := 0) (s2 := s) (d' := d) ⟨rfl, rfl⟩ rfl (Or.inl rfl)  (by simp [re_cat, vc_i, vc_l, vc_r, vc_n, vc_a]) (by rw [show re_cat (.ref as1 :: [.ref as0].reverse) = 2 from by simp [re_cat, vc_i, vc_l, vc_r, vc_n, vc_a]]; decide) (by decide) rfl eg ec rfl (Nat.le_of_eq (Nat.zero_add s)) ?_
  rw [eA]
  exact wp_mono K (fun k v h' z => wp_ret_weak (re_sb_nil _) z)
theorem B14_31 {SC : List Value} {d s : Nat} {h : re_H} {Q : Nat → Value → re_H → Prop} {xs0 : Int32}
    (K : Q 1 (.int xs0) h) : wp SC 14 d s 31 [] [.int xs0] h Q := by
  exact wp_reti ⟨rfl, rfl⟩ rfl K
theorem B15_0 {SC : List Value} {d s : Nat} {h : re_H} {Q : Nat → Value → re_H → Prop} {a0 : Nat}
    {c : Nat} {w : List Value} (eg : re_hg h a0 = some (c, w)) (ec : c = 0) {s1 s2 : Nat} (hs : s1 + s2 ≤ s) (K : wp SC 9 d s1 0 [(0, .ref a0), (1, .int (i32 2))] [] h (wp_ret SC 15 (d + 1) s2 5 [(0, .ref a0)] [] Q)) : wp SC 15 (d + 1) s 0 [(0, .ref a0)] [] h Q := by
  refine wp_run 2 (pc' := 2) (lv' := [(0, .ref a0)]) (st' := [.int (i32 2), .ref a0]) rfl ?_
  have eA : lv_args 0 (.ref a0 :: [.int (i32 2)].reverse) = [(0, .ref a0), (1, .int (i32 2))] := by simp [lv_args, vc_i, vc_l, vc_r, vc_n, vc_a]
  refine wp_callV (ar := [.int (i32 2)]) (rest := []) (s1 := s1) (s2 := s2) (d' := d) ⟨rfl, rfl⟩ rfl (Or.inl rfl)  (by simp [re_cat, vc_i, vc_l, vc_r, vc_n, vc_a]) (by rw [show re_cat (.ref a0 :: [.int (i32 2)].reverse) = 2 from by simp [re_cat, vc_i, vc_l, vc_r, vc_n, vc_a]]; decide) (by decide) rfl eg ec rfl hs ?_
  rw [eA]
  exact wp_mono K (fun k v h' z => wp_ret_weak (re_sb_at rfl (re_sb_nil _)) z)
theorem B15_5 {SC : List Value} {d s : Nat} {h : re_H} {Q : Nat → Value → re_H → Prop} {a0 : Nat}
    {c : Nat} {w : List Value} (eg : re_hg h a0 = some (c, w)) (ec : c = 0) (K : wp SC 10 d 0 0 [(0, .ref a0)] [] h (wp_ret SC 15 (d + 1) s 9 [(0, .ref a0)] [] Q)) : wp SC 15 (d + 1) s 5 [(0, .ref a0)] [] h Q := by
  refine wp_run 1 (pc' := 6) (lv' := [(0, .ref a0)]) (st' := [.ref a0]) rfl ?_
  have eA : lv_args 0 (.ref a0 :: [].reverse) = [(0, .ref a0)] := by simp [lv_args, vc_i, vc_l, vc_r, vc_n, vc_a]
  refine wp_callV (ar := []) (rest := []) (s1 := 0) (s2 := s) (d' := d) ⟨rfl, rfl⟩ rfl (Or.inl rfl)  (by simp [re_cat, vc_i, vc_l, vc_r, vc_n, vc_a]) (by rw [show re_cat (.ref a0 :: [].reverse) = 1 from by simp [re_cat, vc_i, vc_l, vc_r, vc_n, vc_a]]; decide) (by decide) rfl eg ec rfl (Nat.le_of_eq (Nat.zero_add s)) ?_
  rw [eA]
  exact wp_mono K (fun k v h' z => wp_ret_weak (re_sb_at rfl (re_sb_nil _)) z)
theorem B15_9 {SC : List Value} {d s : Nat} {h : re_H} {Q : Nat → Value → re_H → Prop} {a0 : Nat} {vs0 : Value} (rs0 : re_R vs0)
    {c : Nat} {w : List Value} (eg : re_hg h a0 = some (c, w)) (ec : c = 0) (K : wp SC 10 d 0 0 [(0, .ref a0)] [] h (wp_ret SC 15 (d + 1) s 14 [(0, .ref a0), (1, vs0)] [] Q)) : wp SC 15 (d + 1) s 9 [(0, .ref a0)] [vs0] h Q := by
  refine wp_asR (ins := .astore_n 1) (k := 1) (pc' := 10) (lv' := [(1, vs0), (0, .ref a0)]) ⟨rfl, rfl⟩ (Or.inr ⟨_, rfl, rfl, rfl⟩) (by decide) rs0 rfl ?_
  refine wp_run 1 (pc' := 11) (lv' := [(1, vs0), (0, .ref a0)]) (st' := [.ref a0]) rfl ?_
  have eA : lv_args 0 (.ref a0 :: [].reverse) = [(0, .ref a0)] := by simp [lv_args, vc_i, vc_l, vc_r, vc_n, vc_a]
  refine wp_callV (ar := []) (rest := []) (s1 := 0) (s2 := s) (d' := d) ⟨rfl, rfl⟩ rfl (Or.inl rfl)  (by simp [re_cat, vc_i, vc_l, vc_r, vc_n, vc_a]) (by rw [show re_cat (.ref a0 :: [].reverse) = 1 from by simp [re_cat, vc_i, vc_l, vc_r, vc_n, vc_a]]; decide) (by decide) rfl eg ec rfl (Nat.le_of_eq (Nat.zero_add s)) ?_
  rw [eA]
  exact wp_mono K (fun k v h' z => wp_ret_weak (re_sb_at rfl (re_sb_at rfl (re_sb_nil _))) z)
theorem B15_14 {SC : List Value} {d s : Nat} {h : re_H} {Q : Nat → Value → re_H → Prop} {a0 : Nat} {v1 : Value} (r1 : re_R v1) {vs0 : Value} (rs0 : re_R vs0)
    (K : wp SC 15 d s 19 [(1, v1), (2, vs0)] [.ref h.1, .ref a0] (re_hq h (9, [.int 0, .int 0, .long 0, .null, .null, .null, .int 0, .int 0, .int 0, .int 0, .int 0])) Q) : wp SC 15 d s 14 [(0, .ref a0), (1, v1)] [vs0] h Q := by
  refine wp_asR (ins := .astore_n 2) (k := 2) (pc' := 15) (lv' := [(2, vs0), (0, .ref a0), (1, v1)]) ⟨rfl, rfl⟩ (Or.inr ⟨_, rfl, rfl, rfl⟩) (by decide) rs0 (by simp [re_s1, re_c2, re_lk, vc_i, vc_l, vc_r, vc_n, vc_a, re_R_cat r1]) ?_
  refine wp_run 1 (pc' := 16) (lv' := [(2, vs0), (0, .ref a0), (1, v1)]) (st' := [.ref a0]) rfl ?_
  exact wp_new (vs := [.int 0, .int 0, .long 0, .null, .null, .null, .int 0, .int 0, .int 0, .int 0, .int 0]) ⟨rfl, rfl⟩ rfl (by decide) (by decide) (wp_weak (re_sb_at rfl (re_sb_at rfl (re_sb_nil _))) K)
theorem B15_19 {SC : List Value} {d s : Nat} {h : re_H} {Q : Nat → Value → re_H → Prop} {v1 : Value} (r1 : re_R v1) {v2 : Value} (r2 : re_R v2) {as0 : Nat} {as1 : Nat}
    {c : Nat} {w : List Value} (eg : re_hg h as0 = some (c, w)) (ec : c = 9) (K : wp SC 640 d 0 0 [(0, .ref as0), (1, .int (i32 8)), (2, .int (i32 0)), (3, .long (0)), (5, v2), (6, v1), (7, .null)] [] h (wp_ret SC 15 (d + 1) s 30 [] [.ref as0, .ref as1] Q)) : wp SC 15 (d + 1) s 19 [(1, v1), (2, v2)] [.ref as0, .ref as1] h Q := by
  refine wp_run 1 (pc' := 20) (lv' := [(1, v1), (2, v2)]) (st' := [.ref as0, .ref as0, .ref as1]) rfl ?_
  refine wp_bi (x := (i32 8)) ⟨rfl, rfl⟩ (by decide) ?_
  refine wp_run 2 (pc' := 24) (lv' := [(1, v1), (2, v2)]) (st' := [.long (0), .int (i32 0), .int (i32 8), .ref as0, .ref as0, .ref as1]) rfl ?_
  refine wp_alR (ins := .aload_n 2) (k := 2) (pc' := 25) ⟨rfl, rfl⟩ (Or.inr ⟨_, rfl, rfl, rfl⟩) rfl r2 ?_
  refine wp_alR (ins := .aload_n 1) (k := 1) (pc' := 26) ⟨rfl, rfl⟩ (Or.inr ⟨_, rfl, rfl, rfl⟩) rfl r1 ?_
  refine wp_run 1 (pc' := 27) (lv' := [(1, v1), (2, v2)]) (st' := [.null, v1, v2, .long (0), .int (i32 0), .int (i32 8), .ref as0, .ref as0, .ref as1]) rfl ?_
  have eA : lv_args 0 (.ref as0 :: [.null, v1, v2, .long (0), .int (i32 0), .int (i32 8)].reverse) = [(0, .ref as0), (1, .int (i32 8)), (2, .int (i32 0)), (3, .long (0)), (5, v2), (6, v1), (7, .null)] := by simp [lv_args, vc_i, vc_l, vc_r, vc_n, vc_a, re_R_cat r1, re_R_cat r2]
  refine wp_callI (ar := [.null, v1, v2, .long (0), .int (i32 0), .int (i32 8)]) (rest := [.ref as0, .ref as1]) (s1 := 0) (s2 := s) (d' := d) ⟨rfl, rfl⟩ rfl (Or.inl rfl)  (by simp [re_cat, vc_i, vc_l, vc_r, vc_n, vc_a]) (by rw [show re_cat (.ref as0 :: [.null, v1, v2, .long (0), .int (i32 0), .int (i32 8)].reverse) = 8 from by simp [re_cat, vc_i, vc_l, vc_r, vc_n, vc_a, re_R_cat r1, re_R_cat r2]]; decide) (by decide) rfl eg ec rfl (Nat.le_of_eq (Nat.zero_add s)) ?_
  rw [eA]
  exact wp_mono K (fun k v h' z => wp_ret_weak (re_sb_nil _) z)
theorem B15_30 {SC : List Value} {d s : Nat} {h : re_H} {Q : Nat → Value → re_H → Prop} {as0 : Nat} {as1 : Nat}
    {c : Nat} {w : List Value} (eg : re_hg h as1 = some (c, w)) (ec : c = 0) (K : wp SC 3 d 0 0 [(0, .ref as1), (1, .ref as0)] [] h (wp_ret SC 15 (d + 1) s 33 [] [] Q)) : wp SC 15 (d + 1) s 30 [] [.ref as0, .ref as1] h Q := by
  have eA : lv_args 0 (.ref as1 :: [.ref as0].reverse) = [(0, .ref as1), (1, .ref as0)] := by simp [lv_args, vc_i, vc_l, vc_r, vc_n, vc_a]
  refine wp_callV (ar := [.ref as0]) (rest := []) (s1 := 0) (s2 := s) (d' := d) ⟨rfl, rfl⟩ rfl (Or.inl rfl)  (by simp [re_cat, vc_i, vc_l, vc_r, vc_n, vc_a]) (by rw [show re_cat (.ref as1 :: [.ref as0].reverse) = 2 from by simp [re_cat, vc_i, vc_l, vc_r, vc_n, vc_a]]; decide) (by decide) rfl eg ec rfl (Nat.le_of_eq (Nat.zero_add s)) ?_
  rw [eA]
  exact wp_mono K (fun k v h' z => wp_ret_weak (re_sb_nil _) z)
theorem B15_33 {SC : List Value} {d s : Nat} {h : re_H} {Q : Nat → Value → re_H → Prop} {xs0 : Int32}
    (K : Q 1 (.int xs0) h) : wp SC 15 d s 33 [] [.int xs0] h Q := by
  exact wp_reti ⟨rfl, rfl⟩ rfl K
theorem B16_0 {SC : List Value} {d s : Nat} {h : re_H} {Q : Nat → Value → re_H → Prop} {a0 : Nat}
    {xe1 : Int32} (e2 : nb_fd h a0 0 3 (.int xe1)) (K1 : xe1 < (i32 12) → wp SC 16 d s 19 [(0, .ref a0)] [] h Q) (K2 : ¬ xe1 < (i32 12) → wp SC 16 d s 9 [] [] h Q) : wp SC 16 d s 0 [(0, .ref a0)] [] h Q := by
  refine wp_run 1 (pc' := 1) (lv' := [(0, .ref a0)]) (st' := [.ref a0]) rfl ?_
  obtain ⟨w2, e2a, e2b⟩ := e2
  refine wp_gf ⟨rfl, rfl⟩ rfl e2a e2b ?_
  refine wp_bi (x := (i32 12)) ⟨rfl, rfl⟩ (by decide) ?_
  exact wp_cmp ⟨rfl, rfl⟩ rfl (fun hc => wp_weak (re_sb_at rfl (re_sb_nil _)) (K1 (ic1_lt hc))) (fun hc => wp_weak (re_sb_nil _) (K2 (ic0_lt hc)))
theorem B16_9 {SC : List Value} {d s : Nat} {h : re_H} {Q : Nat → Value → re_H → Prop} 
    (hs : 0 < s) (K : Q 4 .null h) : wp SC 16 d s 9 [] [] h Q := by
  exact wp_throw rfl hs (by simp [re_cat, vc_i, vc_l, vc_r, vc_n, vc_a]) K
theorem B16_19 {SC : List Value} {d s : Nat} {h : re_H} {Q : Nat → Value → re_H → Prop} {a0 : Nat}
    {xe1 : Int32} (e2 : nb_fd h a0 0 3 (.int xe1)) {w : List Value} (e : re_hg h a0 = some (0, w)) (hk : 3 < w.length) (K : wp SC 16 d s 30 [(0, .ref a0)] [.int xe1] (re_hw h a0 (0, w.set 3 (.int (xe1 + (i32 1))))) Q) : wp SC 16 d s 19 [(0, .ref a0)] [] h Q := by
  refine wp_run 2 (pc' := 21) (lv' := [(0, .ref a0)]) (st' := [.ref a0, .ref a0]) rfl ?_
  obtain ⟨w2, e2a, e2b⟩ := e2
  refine wp_gf ⟨rfl, rfl⟩ rfl e2a e2b ?_
  refine wp_run 3 (pc' := 27) (lv' := [(0, .ref a0)]) (st' := [.int (xe1 + (i32 1)), .ref a0, .int xe1]) rfl ?_
  exact wp_pf ⟨rfl, rfl⟩ rfl (Or.inl rfl) e hk (fit_i _) (wp_weak (re_sb_at rfl (re_sb_nil _)) K)
theorem B16_30 {SC : List Value} {d s : Nat} {h : re_H} {Q : Nat → Value → re_H → Prop} {a0 : Nat} {xs0 : Int32}
    {ae1 : Nat} (e2 : nb_fd h a0 0 2 (.ref ae1)) {ae3 : Nat} (e4 : nb_fd h ae1 1 0 (.ref ae3)) {w : List Value} {i : Nat} (e : re_hg h ae3 = some (102, w)) (hx : xs0 = i32 i) (hi : i < 2147483648) (hl : i < w.length) (K : wp SC 16 d s 41 [(0, .ref a0), (1, .int xs0)] [] (re_hw h ae3 (102, w.set i (.int (vp_nar .boolean (i32 1))))) Q) : wp SC 16 d s 30 [(0, .ref a0)] [.int xs0] h Q := by
  refine wp_run 2 (pc' := 32) (lv' := [(1, .int xs0), (0, .ref a0)]) (st' := [.ref a0]) rfl ?_
  obtain ⟨w2, e2a, e2b⟩ := e2
  refine wp_gf ⟨rfl, rfl⟩ rfl e2a e2b ?_
  obtain ⟨w4, e4a, e4b⟩ := e4
  refine wp_gf ⟨rfl, rfl⟩ rfl e4a e4b ?_
  refine wp_run 2 (pc' := 40) (lv' := [(1, .int xs0), (0, .ref a0)]) (st' := [.int (i32 1), .int xs0, .ref ae3]) rfl ?_
  exact wp_bas ⟨rfl, rfl⟩ e rfl hx hi hl (wp_weak (re_sb_at rfl (re_sb_at rfl (re_sb_nil _))) K)
theorem B16_41 {SC : List Value} {d s : Nat} {h : re_H} {Q : Nat → Value → re_H → Prop} {a0 : Nat} {x1 : Int32}
    {ae1 : Nat} (e2 : nb_fd h a0 0 4 (.ref ae1)) {c : Nat} {w : List Value} (eg : re_hg h ae1 = some (c, w)) (ec : c = 3) (K : wp SC 193 d 0 0 [(0, .ref ae1)] [] h (wp_ret SC 16 (d + 1) s 48 [(0, .ref a0), (1, .int x1)] [] Q)) : wp SC 16 (d + 1) s 41 [(0, .ref a0), (1, .int x1)] [] h Q := by
  refine wp_run 1 (pc' := 42) (lv' := [(0, .ref a0), (1, .int x1)]) (st' := [.ref a0]) rfl ?_
  obtain ⟨w2, e2a, e2b⟩ := e2
  refine wp_gf ⟨rfl, rfl⟩ rfl e2a e2b ?_
  have eA : lv_args 0 (.ref ae1 :: [].reverse) = [(0, .ref ae1)] := by simp [lv_args, vc_i, vc_l, vc_r, vc_n, vc_a]
  refine wp_callV (ar := []) (rest := []) (s1 := 0) (s2 := s) (d' := d) ⟨rfl, rfl⟩ rfl (Or.inl rfl)  (by simp [re_cat, vc_i, vc_l, vc_r, vc_n, vc_a]) (by rw [show re_cat (.ref ae1 :: [].reverse) = 1 from by simp [re_cat, vc_i, vc_l, vc_r, vc_n, vc_a]]; decide) (by decide) rfl eg ec rfl (Nat.le_of_eq (Nat.zero_add s)) ?_
  rw [eA]
  exact wp_mono K (fun k v h' z => wp_ret_weak (re_sb_at rfl (re_sb_at rfl (re_sb_nil _))) z)
theorem B16_48 {SC : List Value} {d s : Nat} {h : re_H} {Q : Nat → Value → re_H → Prop} {a0 : Nat} {x1 : Int32}
    {ae1 : Nat} (e2 : nb_fd h a0 0 6 (.ref ae1)) {c : Nat} {w : List Value} (eg : re_hg h a0 = some (c, w)) (ec : c = 0) (K : wp SC 17 d 0 0 [(0, .ref a0)] [] h (wp_ret SC 16 (d + 1) s 56 [(1, .int x1)] [.ref ae1] Q)) : wp SC 16 (d + 1) s 48 [(0, .ref a0), (1, .int x1)] [] h Q := by
  refine wp_run 1 (pc' := 49) (lv' := [(0, .ref a0), (1, .int x1)]) (st' := [.ref a0]) rfl ?_
  obtain ⟨w2, e2a, e2b⟩ := e2
  refine wp_gf ⟨rfl, rfl⟩ rfl e2a e2b ?_
  refine wp_run 1 (pc' := 53) (lv' := [(0, .ref a0), (1, .int x1)]) (st' := [.ref a0, .ref ae1]) rfl ?_
  have eA : lv_args 0 (.ref a0 :: [].reverse) = [(0, .ref a0)] := by simp [lv_args, vc_i, vc_l, vc_r, vc_n, vc_a]
  refine wp_callV (ar := []) (rest := [.ref ae1]) (s1 := 0) (s2 := s) (d' := d) ⟨rfl, rfl⟩ rfl (Or.inl rfl)  (by simp [re_cat, vc_i, vc_l, vc_r, vc_n, vc_a]) (by rw [show re_cat (.ref a0 :: [].reverse) = 1 from by simp [re_cat, vc_i, vc_l, vc_r, vc_n, vc_a]]; decide) (by decide) rfl eg ec rfl (Nat.le_of_eq (Nat.zero_add s)) ?_
  rw [eA]
  exact wp_mono K (fun k v h' z => wp_ret_weak (re_sb_at rfl (re_sb_nil _)) z)
theorem B16_56 {SC : List Value} {d s : Nat} {h : re_H} {Q : Nat → Value → re_H → Prop} {x1 : Int32} {xs0 : Int32} {as1 : Nat}
    {c : Nat} {w : List Value} (eg : re_hg h as1 = some (c, w)) (ec : c = 8) (K : wp SC 513 d 0 0 [(0, .ref as1), (1, .int xs0)] [] h (wp_ret SC 16 (d + 1) s 59 [(1, .int x1)] [] Q)) : wp SC 16 (d + 1) s 56 [(1, .int x1)] [.int xs0, .ref as1] h Q := by
  have eA : lv_args 0 (.ref as1 :: [.int xs0].reverse) = [(0, .ref as1), (1, .int xs0)] := by simp [lv_args, vc_i, vc_l, vc_r, vc_n, vc_a]
  refine wp_callV (ar := [.int xs0]) (rest := []) (s1 := 0) (s2 := s) (d' := d) ⟨rfl, rfl⟩ rfl (Or.inl rfl)  (by simp [re_cat, vc_i, vc_l, vc_r, vc_n, vc_a]) (by rw [show re_cat (.ref as1 :: [.int xs0].reverse) = 2 from by simp [re_cat, vc_i, vc_l, vc_r, vc_n, vc_a]]; decide) (by decide) rfl eg ec rfl (Nat.le_of_eq (Nat.zero_add s)) ?_
  rw [eA]
  exact wp_mono K (fun k v h' z => wp_ret_weak (re_sb_at rfl (re_sb_nil _)) z)
theorem B16_59 {SC : List Value} {d s : Nat} {h : re_H} {Q : Nat → Value → re_H → Prop} {x1 : Int32} {xs0 : Int32}
    (K : Q 1 (.int x1) h) : wp SC 16 d s 59 [(1, .int x1)] [.int xs0] h Q := by
  refine wp_run 2 (pc' := 61) (lv' := [(1, .int x1)]) (st' := [.int x1]) rfl ?_
  exact wp_reti ⟨rfl, rfl⟩ rfl K
theorem B17_0 {SC : List Value} {d s : Nat} {h : re_H} {Q : Nat → Value → re_H → Prop} {a0 : Nat}
    {xe1 : Int32} (e2 : nb_fd h a0 0 8 (.int xe1)) (K1 : ¬ xe1 = 0 → wp SC 17 d s 13 [] [] h Q) (K2 : xe1 = 0 → wp SC 17 d s 7 [] [] h Q) : wp SC 17 d s 0 [(0, .ref a0)] [] h Q := by
  refine wp_run 1 (pc' := 1) (lv' := [(0, .ref a0)]) (st' := [.ref a0]) rfl ?_
  obtain ⟨w2, e2a, e2b⟩ := e2
  refine wp_gf ⟨rfl, rfl⟩ rfl e2a e2b ?_
  exact wp_if ⟨rfl, rfl⟩ rfl (fun hc => wp_weak (re_sb_nil _) (K1 (ic1_ne hc))) (fun hc => wp_weak (re_sb_nil _) (K2 (ic0_ne hc)))
theorem B17_7 {SC : List Value} {d s : Nat} {h : re_H} {Q : Nat → Value → re_H → Prop} 
    (K : wp SC 17 d s 14 [] [.int (i32 4095)] h Q) : wp SC 17 d s 7 [] [] h Q := by
  refine wp_si (x := (i32 4095)) ⟨rfl, rfl⟩ (by decide) ?_
  refine wp_run 1 (pc' := 14) (lv' := []) (st' := [.int (i32 4095)]) rfl ?_
  exact wp_weak (re_sb_nil _) K
theorem B17_13 {SC : List Value} {d s : Nat} {h : re_H} {Q : Nat → Value → re_H → Prop} 
    (K : wp SC 17 d s 14 [] [.int (i32 0)] h Q) : wp SC 17 d s 13 [] [] h Q := by
  refine wp_run 1 (pc' := 14) (lv' := []) (st' := [.int (i32 0)]) rfl ?_
  exact wp_weak (re_sb_nil _) K
theorem B17_14 {SC : List Value} {d s : Nat} {h : re_H} {Q : Nat → Value → re_H → Prop} {xs0 : Int32}
    (K : Q 1 (.int xs0) h) : wp SC 17 d s 14 [] [.int xs0] h Q := by
  exact wp_reti ⟨rfl, rfl⟩ rfl K
theorem B18_0 {SC : List Value} {d s : Nat} {h : re_H} {Q : Nat → Value → re_H → Prop} {a0 : Nat} {x1 : Int32} {x2 : Int32}
    {c : Nat} {w : List Value} (eg : re_hg h a0 = some (c, w)) (ec : c = 0) {s1 s2 : Nat} (hs : s1 + s2 ≤ s) (K : wp SC 19 d s1 0 [(0, .ref a0), (1, .int x1)] [] h (wp_ret SC 18 (d + 1) s2 5 [(0, .ref a0), (1, .int x1), (2, .int x2)] [] Q)) : wp SC 18 (d + 1) s 0 [(0, .ref a0), (1, .int x1), (2, .int x2)] [] h Q := by
  refine wp_run 2 (pc' := 2) (lv' := [(0, .ref a0), (1, .int x1), (2, .int x2)]) (st' := [.int x1, .ref a0]) rfl ?_
  have eA : lv_args 0 (.ref a0 :: [.int x1].reverse) = [(0, .ref a0), (1, .int x1)] := by simp [lv_args, vc_i, vc_l, vc_r, vc_n, vc_a]
  refine wp_callV (ar := [.int x1]) (rest := []) (s1 := s1) (s2 := s2) (d' := d) ⟨rfl, rfl⟩ rfl (Or.inl rfl)  (by simp [re_cat, vc_i, vc_l, vc_r, vc_n, vc_a]) (by rw [show re_cat (.ref a0 :: [.int x1].reverse) = 2 from by simp [re_cat, vc_i, vc_l, vc_r, vc_n, vc_a]]; decide) (by decide) rfl eg ec rfl hs ?_
  rw [eA]
  exact wp_mono K (fun k v h' z => wp_ret_weak (re_sb_at rfl (re_sb_at rfl (re_sb_at rfl (re_sb_nil _)))) z)
theorem B18_5 {SC : List Value} {d s : Nat} {h : re_H} {Q : Nat → Value → re_H → Prop} {a0 : Nat} {x1 : Int32} {x2 : Int32}
    {c : Nat} {w : List Value} (eg : re_hg h a0 = some (c, w)) (ec : c = 0) {s1 s2 : Nat} (hs : s1 + s2 ≤ s) (K : wp SC 5 d s1 0 [(0, .ref a0), (1, .int x2)] [] h (wp_ret SC 18 (d + 1) s2 10 [(0, .ref a0), (1, .int x1), (2, .int x2)] [] Q)) : wp SC 18 (d + 1) s 5 [(0, .ref a0), (1, .int x1), (2, .int x2)] [] h Q := by
  refine wp_run 2 (pc' := 7) (lv' := [(0, .ref a0), (1, .int x1), (2, .int x2)]) (st' := [.int x2, .ref a0]) rfl ?_
  have eA : lv_args 0 (.ref a0 :: [.int x2].reverse) = [(0, .ref a0), (1, .int x2)] := by simp [lv_args, vc_i, vc_l, vc_r, vc_n, vc_a]
  refine wp_callV (ar := [.int x2]) (rest := []) (s1 := s1) (s2 := s2) (d' := d) ⟨rfl, rfl⟩ rfl (Or.inl rfl)  (by simp [re_cat, vc_i, vc_l, vc_r, vc_n, vc_a]) (by rw [show re_cat (.ref a0 :: [.int x2].reverse) = 2 from by simp [re_cat, vc_i, vc_l, vc_r, vc_n, vc_a]]; decide) (by decide) rfl eg ec rfl hs ?_
  rw [eA]
  exact wp_mono K (fun k v h' z => wp_ret_weak (re_sb_at rfl (re_sb_at rfl (re_sb_at rfl (re_sb_nil _)))) z)
theorem B18_10 {SC : List Value} {d s : Nat} {h : re_H} {Q : Nat → Value → re_H → Prop} {a0 : Nat} {x1 : Int32} {x2 : Int32}
    {ae1 : Nat} (e2 : nb_fd h a0 0 2 (.ref ae1)) {ae3 : Nat} (e4 : nb_fd h ae1 1 1 (.ref ae3)) {ae5 : Nat} (e6 : nb_ar h ae3 104 x1 (.ref ae5)) {xe7 : Int32} (e8 : nb_fd h a0 0 1 (.int xe7)) (K1 : ¬ xe7 = 0 → wp SC 18 d s 37 [(0, .ref a0), (2, .int x2), (3, .ref ae5)] [] h Q) (K2 : xe7 = 0 → wp SC 18 d s 27 [] [] h Q) : wp SC 18 d s 10 [(0, .ref a0), (1, .int x1), (2, .int x2)] [] h Q := by
  refine wp_run 1 (pc' := 11) (lv' := [(0, .ref a0), (1, .int x1), (2, .int x2)]) (st' := [.ref a0]) rfl ?_
  obtain ⟨w2, e2a, e2b⟩ := e2
  refine wp_gf ⟨rfl, rfl⟩ rfl e2a e2b ?_
  obtain ⟨w4, e4a, e4b⟩ := e4
  refine wp_gf ⟨rfl, rfl⟩ rfl e4a e4b ?_
  refine wp_run 1 (pc' := 18) (lv' := [(0, .ref a0), (1, .int x1), (2, .int x2)]) (st' := [.int x1, .ref ae3]) rfl ?_
  obtain ⟨w6, i6, e6a, e6x, e6i, e6v⟩ := e6
  refine wp_aal ⟨rfl, rfl⟩ e6a ⟨by decide, by decide⟩ e6x e6i e6v ?_
  refine wp_run 2 (pc' := 21) (lv' := [(3, .ref ae5), (0, .ref a0), (1, .int x1), (2, .int x2)]) (st' := [.ref a0]) rfl ?_
  obtain ⟨w8, e8a, e8b⟩ := e8
  refine wp_gf ⟨rfl, rfl⟩ rfl e8a e8b ?_
  exact wp_if ⟨rfl, rfl⟩ rfl (fun hc => wp_weak (re_sb_at rfl (re_sb_at rfl (re_sb_at rfl (re_sb_nil _)))) (K1 (ic1_ne hc))) (fun hc => wp_weak (re_sb_nil _) (K2 (ic0_ne hc)))
theorem B18_27 {SC : List Value} {d s : Nat} {h : re_H} {Q : Nat → Value → re_H → Prop} 
    (hs : 0 < s) (K : Q 4 .null h) : wp SC 18 d s 27 [] [] h Q := by
  exact wp_throw rfl hs (by simp [re_cat, vc_i, vc_l, vc_r, vc_n, vc_a]) K
theorem B18_37 {SC : List Value} {d s : Nat} {h : re_H} {Q : Nat → Value → re_H → Prop} {a0 : Nat} {x2 : Int32} {a3 : Nat}
    {c : Nat} {w : List Value} (eg : re_hg h a3 = some (c, w)) (ec : c = 2) (K : wp SC 135 d 0 0 [(0, .ref a3), (1, .int x2)] [] h (wp_ret SC 18 (d + 1) s 42 [(0, .ref a0), (2, .int x2), (3, .ref a3)] [] Q)) : wp SC 18 (d + 1) s 37 [(0, .ref a0), (2, .int x2), (3, .ref a3)] [] h Q := by
  refine wp_run 2 (pc' := 39) (lv' := [(0, .ref a0), (2, .int x2), (3, .ref a3)]) (st' := [.int x2, .ref a3]) rfl ?_
  have eA : lv_args 0 (.ref a3 :: [.int x2].reverse) = [(0, .ref a3), (1, .int x2)] := by simp [lv_args, vc_i, vc_l, vc_r, vc_n, vc_a]
  refine wp_callV (ar := [.int x2]) (rest := []) (s1 := 0) (s2 := s) (d' := d) ⟨rfl, rfl⟩ rfl (Or.inl rfl)  (by simp [re_cat, vc_i, vc_l, vc_r, vc_n, vc_a]) (by rw [show re_cat (.ref a3 :: [.int x2].reverse) = 2 from by simp [re_cat, vc_i, vc_l, vc_r, vc_n, vc_a]]; decide) (by decide) rfl eg ec rfl (Nat.le_of_eq (Nat.zero_add s)) ?_
  rw [eA]
  exact wp_mono K (fun k v h' z => wp_ret_weak (re_sb_at rfl (re_sb_at rfl (re_sb_at rfl (re_sb_nil _)))) z)
theorem B18_42 {SC : List Value} {d s : Nat} {h : re_H} {Q : Nat → Value → re_H → Prop} {a0 : Nat} {x2 : Int32} {a3 : Nat} {xs0 : Int32}
    (K1 : ¬ xs0 < 0 → wp SC 18 d s 63 [(0, .ref a0), (2, .int x2), (3, .ref a3)] [] h Q) (K2 : xs0 < 0 → wp SC 18 d s 45 [(0, .ref a0), (2, .int x2), (3, .ref a3)] [] h Q) : wp SC 18 d s 42 [(0, .ref a0), (2, .int x2), (3, .ref a3)] [.int xs0] h Q := by
  exact wp_if ⟨rfl, rfl⟩ rfl (fun hc => wp_weak (re_sb_at rfl (re_sb_at rfl (re_sb_at rfl (re_sb_nil _)))) (K1 (ic1_ge hc))) (fun hc => wp_weak (re_sb_at rfl (re_sb_at rfl (re_sb_at rfl (re_sb_nil _)))) (K2 (ic0_ge hc)))
theorem B18_45 {SC : List Value} {d s : Nat} {h : re_H} {Q : Nat → Value → re_H → Prop} {a0 : Nat} {x2 : Int32} {a3 : Nat}
    {xe1 : Int32} (e2 : nb_fd h a3 2 0 (.int xe1)) (K1 : xe1 < (i32 4) → wp SC 18 d s 63 [(0, .ref a0), (2, .int x2), (3, .ref a3)] [] h Q) (K2 : ¬ xe1 < (i32 4) → wp SC 18 d s 53 [] [] h Q) : wp SC 18 d s 45 [(0, .ref a0), (2, .int x2), (3, .ref a3)] [] h Q := by
  refine wp_run 1 (pc' := 46) (lv' := [(0, .ref a0), (2, .int x2), (3, .ref a3)]) (st' := [.ref a3]) rfl ?_
  obtain ⟨w2, e2a, e2b⟩ := e2
  refine wp_gf ⟨rfl, rfl⟩ rfl e2a e2b ?_
  refine wp_run 1 (pc' := 50) (lv' := [(0, .ref a0), (2, .int x2), (3, .ref a3)]) (st' := [.int (i32 4), .int xe1]) rfl ?_
  exact wp_cmp ⟨rfl, rfl⟩ rfl (fun hc => wp_weak (re_sb_at rfl (re_sb_at rfl (re_sb_at rfl (re_sb_nil _)))) (K1 (ic1_lt hc))) (fun hc => wp_weak (re_sb_nil _) (K2 (ic0_lt hc)))
theorem B18_53 {SC : List Value} {d s : Nat} {h : re_H} {Q : Nat → Value → re_H → Prop} 
    (hs : 0 < s) (K : Q 4 .null h) : wp SC 18 d s 53 [] [] h Q := by
  exact wp_throw rfl hs (by simp [re_cat, vc_i, vc_l, vc_r, vc_n, vc_a]) K
theorem B18_63 {SC : List Value} {d s : Nat} {h : re_H} {Q : Nat → Value → re_H → Prop} {a0 : Nat} {x2 : Int32} {a3 : Nat}
    {c : Nat} {w : List Value} (eg : re_hg h a0 = some (c, w)) (ec : c = 0) (K : wp SC 10 d 0 0 [(0, .ref a0)] [] h (wp_ret SC 18 (d + 1) s 69 [(0, .ref a0), (3, .ref a3)] [.int x2, .ref a3] Q)) : wp SC 18 (d + 1) s 63 [(0, .ref a0), (2, .int x2), (3, .ref a3)] [] h Q := by
  refine wp_run 3 (pc' := 66) (lv' := [(0, .ref a0), (2, .int x2), (3, .ref a3)]) (st' := [.ref a0, .int x2, .ref a3]) rfl ?_
  have eA : lv_args 0 (.ref a0 :: [].reverse) = [(0, .ref a0)] := by simp [lv_args, vc_i, vc_l, vc_r, vc_n, vc_a]
  refine wp_callV (ar := []) (rest := [.int x2, .ref a3]) (s1 := 0) (s2 := s) (d' := d) ⟨rfl, rfl⟩ rfl (Or.inl rfl)  (by simp [re_cat, vc_i, vc_l, vc_r, vc_n, vc_a]) (by rw [show re_cat (.ref a0 :: [].reverse) = 1 from by simp [re_cat, vc_i, vc_l, vc_r, vc_n, vc_a]]; decide) (by decide) rfl eg ec rfl (Nat.le_of_eq (Nat.zero_add s)) ?_
  rw [eA]
  exact wp_mono K (fun k v h' z => wp_ret_weak (re_sb_at rfl (re_sb_at rfl (re_sb_nil _))) z)
theorem B18_69 {SC : List Value} {d s : Nat} {h : re_H} {Q : Nat → Value → re_H → Prop} {a0 : Nat} {a3 : Nat} {vs0 : Value} (rs0 : re_R vs0) {xs1 : Int32} {as2 : Nat}
    {c : Nat} {w : List Value} (eg : re_hg h as2 = some (c, w)) (ec : c = 2) (K : wp SC 136 d 0 0 [(0, .ref as2), (1, .int xs1), (2, vs0)] [] h (wp_ret SC 18 (d + 1) s 72 [(0, .ref a0), (3, .ref a3)] [] Q)) : wp SC 18 (d + 1) s 69 [(0, .ref a0), (3, .ref a3)] [vs0, .int xs1, .ref as2] h Q := by
  have eA : lv_args 0 (.ref as2 :: [vs0, .int xs1].reverse) = [(0, .ref as2), (1, .int xs1), (2, vs0)] := by simp [lv_args, vc_i, vc_l, vc_r, vc_n, vc_a, re_R_cat rs0]
  refine wp_callV (ar := [vs0, .int xs1]) (rest := []) (s1 := 0) (s2 := s) (d' := d) ⟨rfl, rfl⟩ rfl (Or.inl rfl)  (by simp [re_cat, vc_i, vc_l, vc_r, vc_n, vc_a]) (by rw [show re_cat (.ref as2 :: [vs0, .int xs1].reverse) = 3 from by simp [re_cat, vc_i, vc_l, vc_r, vc_n, vc_a, re_R_cat rs0]]; decide) (by decide) rfl eg ec rfl (Nat.le_of_eq (Nat.zero_add s)) ?_
  rw [eA]
  exact wp_mono K (fun k v h' z => wp_ret_weak (re_sb_at rfl (re_sb_at rfl (re_sb_nil _))) z)
theorem B18_72 {SC : List Value} {d s : Nat} {h : re_H} {Q : Nat → Value → re_H → Prop} {a0 : Nat} {a3 : Nat}
    {ae1 : Nat} (e2 : nb_fd h a0 0 4 (.ref ae1)) {c : Nat} {w : List Value} (eg : re_hg h ae1 = some (c, w)) (ec : c = 3) (K : wp SC 193 d 0 0 [(0, .ref ae1)] [] h (wp_ret SC 18 (d + 1) s 79 [(0, .ref a0), (3, .ref a3)] [] Q)) : wp SC 18 (d + 1) s 72 [(0, .ref a0), (3, .ref a3)] [] h Q := by
  refine wp_run 1 (pc' := 73) (lv' := [(0, .ref a0), (3, .ref a3)]) (st' := [.ref a0]) rfl ?_
  obtain ⟨w2, e2a, e2b⟩ := e2
  refine wp_gf ⟨rfl, rfl⟩ rfl e2a e2b ?_
  have eA : lv_args 0 (.ref ae1 :: [].reverse) = [(0, .ref ae1)] := by simp [lv_args, vc_i, vc_l, vc_r, vc_n, vc_a]
  refine wp_callV (ar := []) (rest := []) (s1 := 0) (s2 := s) (d' := d) ⟨rfl, rfl⟩ rfl (Or.inl rfl)  (by simp [re_cat, vc_i, vc_l, vc_r, vc_n, vc_a]) (by rw [show re_cat (.ref ae1 :: [].reverse) = 1 from by simp [re_cat, vc_i, vc_l, vc_r, vc_n, vc_a]]; decide) (by decide) rfl eg ec rfl (Nat.le_of_eq (Nat.zero_add s)) ?_
  rw [eA]
  exact wp_mono K (fun k v h' z => wp_ret_weak (re_sb_at rfl (re_sb_at rfl (re_sb_nil _))) z)
theorem B18_79 {SC : List Value} {d s : Nat} {h : re_H} {Q : Nat → Value → re_H → Prop} {a0 : Nat} {a3 : Nat}
    {ae1 : Nat} (e2 : nb_fd h a0 0 6 (.ref ae1)) {c : Nat} {w : List Value} (eg : re_hg h a0 = some (c, w)) (ec : c = 0) (K : wp SC 17 d 0 0 [(0, .ref a0)] [] h (wp_ret SC 18 (d + 1) s 87 [(3, .ref a3)] [.ref ae1] Q)) : wp SC 18 (d + 1) s 79 [(0, .ref a0), (3, .ref a3)] [] h Q := by
  refine wp_run 1 (pc' := 80) (lv' := [(0, .ref a0), (3, .ref a3)]) (st' := [.ref a0]) rfl ?_
  obtain ⟨w2, e2a, e2b⟩ := e2
  refine wp_gf ⟨rfl, rfl⟩ rfl e2a e2b ?_
  refine wp_run 1 (pc' := 84) (lv' := [(0, .ref a0), (3, .ref a3)]) (st' := [.ref a0, .ref ae1]) rfl ?_
  have eA : lv_args 0 (.ref a0 :: [].reverse) = [(0, .ref a0)] := by simp [lv_args, vc_i, vc_l, vc_r, vc_n, vc_a]
  refine wp_callV (ar := []) (rest := [.ref ae1]) (s1 := 0) (s2 := s) (d' := d) ⟨rfl, rfl⟩ rfl (Or.inl rfl)  (by simp [re_cat, vc_i, vc_l, vc_r, vc_n, vc_a]) (by rw [show re_cat (.ref a0 :: [].reverse) = 1 from by simp [re_cat, vc_i, vc_l, vc_r, vc_n, vc_a]]; decide) (by decide) rfl eg ec rfl (Nat.le_of_eq (Nat.zero_add s)) ?_
  rw [eA]
  exact wp_mono K (fun k v h' z => wp_ret_weak (re_sb_at rfl (re_sb_nil _)) z)
theorem B18_87 {SC : List Value} {d s : Nat} {h : re_H} {Q : Nat → Value → re_H → Prop} {a3 : Nat} {xs0 : Int32} {as1 : Nat}
    {c : Nat} {w : List Value} (eg : re_hg h as1 = some (c, w)) (ec : c = 8) (K : wp SC 513 d 0 0 [(0, .ref as1), (1, .int xs0)] [] h (wp_ret SC 18 (d + 1) s 90 [(3, .ref a3)] [] Q)) : wp SC 18 (d + 1) s 87 [(3, .ref a3)] [.int xs0, .ref as1] h Q := by
  have eA : lv_args 0 (.ref as1 :: [.int xs0].reverse) = [(0, .ref as1), (1, .int xs0)] := by simp [lv_args, vc_i, vc_l, vc_r, vc_n, vc_a]
  refine wp_callV (ar := [.int xs0]) (rest := []) (s1 := 0) (s2 := s) (d' := d) ⟨rfl, rfl⟩ rfl (Or.inl rfl)  (by simp [re_cat, vc_i, vc_l, vc_r, vc_n, vc_a]) (by rw [show re_cat (.ref as1 :: [.int xs0].reverse) = 2 from by simp [re_cat, vc_i, vc_l, vc_r, vc_n, vc_a]]; decide) (by decide) rfl eg ec rfl (Nat.le_of_eq (Nat.zero_add s)) ?_
  rw [eA]
  exact wp_mono K (fun k v h' z => wp_ret_weak (re_sb_at rfl (re_sb_nil _)) z)
theorem B18_90 {SC : List Value} {d s : Nat} {h : re_H} {Q : Nat → Value → re_H → Prop} {a3 : Nat} {xs0 : Int32}
    {xe1 : Int32} (e2 : nb_fd h a3 2 0 (.int xe1)) (K : Q 1 (.int xe1) h) : wp SC 18 d s 90 [(3, .ref a3)] [.int xs0] h Q := by
  refine wp_run 2 (pc' := 92) (lv' := [(3, .ref a3)]) (st' := [.ref a3]) rfl ?_
  obtain ⟨w2, e2a, e2b⟩ := e2
  refine wp_gf ⟨rfl, rfl⟩ rfl e2a e2b ?_
  exact wp_reti ⟨rfl, rfl⟩ rfl K
theorem B19_0 {SC : List Value} {d s : Nat} {h : re_H} {Q : Nat → Value → re_H → Prop} {a0 : Nat} {x1 : Int32}
    (K1 : x1 < 0 → wp SC 19 d s 22 [] [] h Q) (K2 : ¬ x1 < 0 → wp SC 19 d s 4 [(0, .ref a0), (1, .int x1)] [] h Q) : wp SC 19 d s 0 [(0, .ref a0), (1, .int x1)] [] h Q := by
  refine wp_run 1 (pc' := 1) (lv' := [(0, .ref a0), (1, .int x1)]) (st' := [.int x1]) rfl ?_
  exact wp_if ⟨rfl, rfl⟩ rfl (fun hc => wp_weak (re_sb_nil _) (K1 (ic1_lt hc))) (fun hc => wp_weak (re_sb_at rfl (re_sb_at rfl (re_sb_nil _))) (K2 (ic0_lt hc)))
theorem B19_4 {SC : List Value} {d s : Nat} {h : re_H} {Q : Nat → Value → re_H → Prop} {a0 : Nat} {x1 : Int32}
    (K1 : ¬ x1 < (i32 12) → wp SC 19 d s 22 [] [] h Q) (K2 : x1 < (i32 12) → wp SC 19 d s 10 [(0, .ref a0), (1, .int x1)] [] h Q) : wp SC 19 d s 4 [(0, .ref a0), (1, .int x1)] [] h Q := by
  refine wp_run 1 (pc' := 5) (lv' := [(0, .ref a0), (1, .int x1)]) (st' := [.int x1]) rfl ?_
  refine wp_bi (x := (i32 12)) ⟨rfl, rfl⟩ (by decide) ?_
  exact wp_cmp ⟨rfl, rfl⟩ rfl (fun hc => wp_weak (re_sb_nil _) (K1 (ic1_ge hc))) (fun hc => wp_weak (re_sb_at rfl (re_sb_at rfl (re_sb_nil _))) (K2 (ic0_ge hc)))
theorem B19_10 {SC : List Value} {d s : Nat} {h : re_H} {Q : Nat → Value → re_H → Prop} {a0 : Nat} {x1 : Int32}
    {ae1 : Nat} (e2 : nb_fd h a0 0 2 (.ref ae1)) {ae3 : Nat} (e4 : nb_fd h ae1 1 0 (.ref ae3)) {xe5 : Int32} (e6 : nb_ar h ae3 102 x1 (.int xe5)) (K1 : ¬ xe5 = 0 → wp SC 19 d s 32 [] [] h Q) (K2 : xe5 = 0 → wp SC 19 d s 22 [] [] h Q) : wp SC 19 d s 10 [(0, .ref a0), (1, .int x1)] [] h Q := by
  refine wp_run 1 (pc' := 11) (lv' := [(0, .ref a0), (1, .int x1)]) (st' := [.ref a0]) rfl ?_
  obtain ⟨w2, e2a, e2b⟩ := e2
  refine wp_gf ⟨rfl, rfl⟩ rfl e2a e2b ?_
  obtain ⟨w4, e4a, e4b⟩ := e4
  refine wp_gf ⟨rfl, rfl⟩ rfl e4a e4b ?_
  refine wp_run 1 (pc' := 18) (lv' := [(0, .ref a0), (1, .int x1)]) (st' := [.int x1, .ref ae3]) rfl ?_
  obtain ⟨w6, i6, e6a, e6x, e6i, e6v⟩ := e6
  refine wp_bal ⟨rfl, rfl⟩ e6a rfl e6x e6i e6v ?_
  exact wp_if ⟨rfl, rfl⟩ rfl (fun hc => wp_weak (re_sb_nil _) (K1 (ic1_ne hc))) (fun hc => wp_weak (re_sb_nil _) (K2 (ic0_ne hc)))
theorem B19_22 {SC : List Value} {d s : Nat} {h : re_H} {Q : Nat → Value → re_H → Prop} 
    (hs : 0 < s) (K : Q 6 .null h) : wp SC 19 d s 22 [] [] h Q := by
  exact wp_throw rfl hs (by simp [re_cat, vc_i, vc_l, vc_r, vc_n, vc_a]) K
theorem B19_32 {SC : List Value} {d s : Nat} {h : re_H} {Q : Nat → Value → re_H → Prop} 
    (K : Q 0 .null h) : wp SC 19 d s 32 [] [] h Q := by
  exact wp_retv ⟨rfl, rfl⟩ rfl K
theorem B20_0 {SC : List Value} {d s : Nat} {h : re_H} {Q : Nat → Value → re_H → Prop} {a0 : Nat} {x1 : Int32} {x2 : Int32}
    {c : Nat} {w : List Value} (eg : re_hg h a0 = some (c, w)) (ec : c = 0) {s1 s2 : Nat} (hs : s1 + s2 ≤ s) (K : wp SC 19 d s1 0 [(0, .ref a0), (1, .int x1)] [] h (wp_ret SC 20 (d + 1) s2 5 [(0, .ref a0), (1, .int x1), (2, .int x2)] [] Q)) : wp SC 20 (d + 1) s 0 [(0, .ref a0), (1, .int x1), (2, .int x2)] [] h Q := by
  refine wp_run 2 (pc' := 2) (lv' := [(0, .ref a0), (1, .int x1), (2, .int x2)]) (st' := [.int x1, .ref a0]) rfl ?_
  have eA : lv_args 0 (.ref a0 :: [.int x1].reverse) = [(0, .ref a0), (1, .int x1)] := by simp [lv_args, vc_i, vc_l, vc_r, vc_n, vc_a]
  refine wp_callV (ar := [.int x1]) (rest := []) (s1 := s1) (s2 := s2) (d' := d) ⟨rfl, rfl⟩ rfl (Or.inl rfl)  (by simp [re_cat, vc_i, vc_l, vc_r, vc_n, vc_a]) (by rw [show re_cat (.ref a0 :: [.int x1].reverse) = 2 from by simp [re_cat, vc_i, vc_l, vc_r, vc_n, vc_a]]; decide) (by decide) rfl eg ec rfl hs ?_
  rw [eA]
  exact wp_mono K (fun k v h' z => wp_ret_weak (re_sb_at rfl (re_sb_at rfl (re_sb_at rfl (re_sb_nil _)))) z)
theorem B20_5 {SC : List Value} {d s : Nat} {h : re_H} {Q : Nat → Value → re_H → Prop} {a0 : Nat} {x1 : Int32} {x2 : Int32}
    {c : Nat} {w : List Value} (eg : re_hg h a0 = some (c, w)) (ec : c = 0) {s1 s2 : Nat} (hs : s1 + s2 ≤ s) (K : wp SC 5 d s1 0 [(0, .ref a0), (1, .int x2)] [] h (wp_ret SC 20 (d + 1) s2 10 [(0, .ref a0), (1, .int x1), (2, .int x2)] [] Q)) : wp SC 20 (d + 1) s 5 [(0, .ref a0), (1, .int x1), (2, .int x2)] [] h Q := by
  refine wp_run 2 (pc' := 7) (lv' := [(0, .ref a0), (1, .int x1), (2, .int x2)]) (st' := [.int x2, .ref a0]) rfl ?_
  have eA : lv_args 0 (.ref a0 :: [.int x2].reverse) = [(0, .ref a0), (1, .int x2)] := by simp [lv_args, vc_i, vc_l, vc_r, vc_n, vc_a]
  refine wp_callV (ar := [.int x2]) (rest := []) (s1 := s1) (s2 := s2) (d' := d) ⟨rfl, rfl⟩ rfl (Or.inl rfl)  (by simp [re_cat, vc_i, vc_l, vc_r, vc_n, vc_a]) (by rw [show re_cat (.ref a0 :: [.int x2].reverse) = 2 from by simp [re_cat, vc_i, vc_l, vc_r, vc_n, vc_a]]; decide) (by decide) rfl eg ec rfl hs ?_
  rw [eA]
  exact wp_mono K (fun k v h' z => wp_ret_weak (re_sb_at rfl (re_sb_at rfl (re_sb_at rfl (re_sb_nil _)))) z)
theorem B20_10 {SC : List Value} {d s : Nat} {h : re_H} {Q : Nat → Value → re_H → Prop} {a0 : Nat} {x1 : Int32} {x2 : Int32}
    {ae1 : Nat} (e2 : nb_fd h a0 0 2 (.ref ae1)) {ae3 : Nat} (e4 : nb_fd h ae1 1 1 (.ref ae3)) {ae5 : Nat} (e6 : nb_ar h ae3 104 x1 (.ref ae5)) {c : Nat} {w : List Value} (eg : re_hg h ae5 = some (c, w)) (ec : c = 2) (K : wp SC 135 d 0 0 [(0, .ref ae5), (1, .int x2)] [] h (wp_ret SC 20 (d + 1) s 25 [(0, .ref a0), (3, .ref ae5)] [] Q)) : wp SC 20 (d + 1) s 10 [(0, .ref a0), (1, .int x1), (2, .int x2)] [] h Q := by
  refine wp_run 1 (pc' := 11) (lv' := [(0, .ref a0), (1, .int x1), (2, .int x2)]) (st' := [.ref a0]) rfl ?_
  obtain ⟨w2, e2a, e2b⟩ := e2
  refine wp_gf ⟨rfl, rfl⟩ rfl e2a e2b ?_
  obtain ⟨w4, e4a, e4b⟩ := e4
  refine wp_gf ⟨rfl, rfl⟩ rfl e4a e4b ?_
  refine wp_run 1 (pc' := 18) (lv' := [(0, .ref a0), (1, .int x1), (2, .int x2)]) (st' := [.int x1, .ref ae3]) rfl ?_
  obtain ⟨w6, i6, e6a, e6x, e6i, e6v⟩ := e6
  refine wp_aal ⟨rfl, rfl⟩ e6a ⟨by decide, by decide⟩ e6x e6i e6v ?_
  refine wp_run 3 (pc' := 22) (lv' := [(3, .ref ae5), (0, .ref a0), (1, .int x1), (2, .int x2)]) (st' := [.int x2, .ref ae5]) rfl ?_
  have eA : lv_args 0 (.ref ae5 :: [.int x2].reverse) = [(0, .ref ae5), (1, .int x2)] := by simp [lv_args, vc_i, vc_l, vc_r, vc_n, vc_a]
  refine wp_callV (ar := [.int x2]) (rest := []) (s1 := 0) (s2 := s) (d' := d) ⟨rfl, rfl⟩ rfl (Or.inl rfl)  (by simp [re_cat, vc_i, vc_l, vc_r, vc_n, vc_a]) (by rw [show re_cat (.ref ae5 :: [.int x2].reverse) = 2 from by simp [re_cat, vc_i, vc_l, vc_r, vc_n, vc_a]]; decide) (by decide) rfl eg ec rfl (Nat.le_of_eq (Nat.zero_add s)) ?_
  rw [eA]
  exact wp_mono K (fun k v h' z => wp_ret_weak (re_sb_at rfl (re_sb_at rfl (re_sb_nil _))) z)
theorem B20_25 {SC : List Value} {d s : Nat} {h : re_H} {Q : Nat → Value → re_H → Prop} {a0 : Nat} {a3 : Nat} {xs0 : Int32}
    (K1 : ¬ xs0 < 0 → wp SC 20 d s 42 [(0, .ref a0), (3, .ref a3), (4, .int xs0)] [] h Q) (K2 : xs0 < 0 → wp SC 20 d s 32 [] [] h Q) : wp SC 20 d s 25 [(0, .ref a0), (3, .ref a3)] [.int xs0] h Q := by
  refine wp_run 2 (pc' := 29) (lv' := [(4, .int xs0), (0, .ref a0), (3, .ref a3)]) (st' := [.int xs0]) rfl ?_
  exact wp_if ⟨rfl, rfl⟩ rfl (fun hc => wp_weak (re_sb_at rfl (re_sb_at rfl (re_sb_at rfl (re_sb_nil _)))) (K1 (ic1_ge hc))) (fun hc => wp_weak (re_sb_nil _) (K2 (ic0_ge hc)))
theorem B20_32 {SC : List Value} {d s : Nat} {h : re_H} {Q : Nat → Value → re_H → Prop} 
    (hs : 0 < s) (K : Q 4 .null h) : wp SC 20 d s 32 [] [] h Q := by
  exact wp_throw rfl hs (by simp [re_cat, vc_i, vc_l, vc_r, vc_n, vc_a]) K
theorem B20_42 {SC : List Value} {d s : Nat} {h : re_H} {Q : Nat → Value → re_H → Prop} {a0 : Nat} {a3 : Nat} {x4 : Int32}
    {c : Nat} {w : List Value} (eg : re_hg h a3 = some (c, w)) (ec : c = 2) (K : wp SC 137 d 0 0 [(0, .ref a3), (1, .int x4)] [] h (wp_ret SC 20 (d + 1) s 48 [(0, .ref a0), (3, .ref a3)] [] Q)) : wp SC 20 (d + 1) s 42 [(0, .ref a0), (3, .ref a3), (4, .int x4)] [] h Q := by
  refine wp_run 2 (pc' := 45) (lv' := [(0, .ref a0), (3, .ref a3), (4, .int x4)]) (st' := [.int x4, .ref a3]) rfl ?_
  have eA : lv_args 0 (.ref a3 :: [.int x4].reverse) = [(0, .ref a3), (1, .int x4)] := by simp [lv_args, vc_i, vc_l, vc_r, vc_n, vc_a]
  refine wp_callV (ar := [.int x4]) (rest := []) (s1 := 0) (s2 := s) (d' := d) ⟨rfl, rfl⟩ rfl (Or.inl rfl)  (by simp [re_cat, vc_i, vc_l, vc_r, vc_n, vc_a]) (by rw [show re_cat (.ref a3 :: [.int x4].reverse) = 2 from by simp [re_cat, vc_i, vc_l, vc_r, vc_n, vc_a]]; decide) (by decide) rfl eg ec rfl (Nat.le_of_eq (Nat.zero_add s)) ?_
  rw [eA]
  exact wp_mono K (fun k v h' z => wp_ret_weak (re_sb_at rfl (re_sb_at rfl (re_sb_nil _))) z)
theorem B20_48 {SC : List Value} {d s : Nat} {h : re_H} {Q : Nat → Value → re_H → Prop} {a0 : Nat} {a3 : Nat}
    {ae1 : Nat} (e2 : nb_fd h a0 0 4 (.ref ae1)) {c : Nat} {w : List Value} (eg : re_hg h ae1 = some (c, w)) (ec : c = 3) (K : wp SC 193 d 0 0 [(0, .ref ae1)] [] h (wp_ret SC 20 (d + 1) s 55 [(0, .ref a0), (3, .ref a3)] [] Q)) : wp SC 20 (d + 1) s 48 [(0, .ref a0), (3, .ref a3)] [] h Q := by
  refine wp_run 1 (pc' := 49) (lv' := [(0, .ref a0), (3, .ref a3)]) (st' := [.ref a0]) rfl ?_
  obtain ⟨w2, e2a, e2b⟩ := e2
  refine wp_gf ⟨rfl, rfl⟩ rfl e2a e2b ?_
  have eA : lv_args 0 (.ref ae1 :: [].reverse) = [(0, .ref ae1)] := by simp [lv_args, vc_i, vc_l, vc_r, vc_n, vc_a]
  refine wp_callV (ar := []) (rest := []) (s1 := 0) (s2 := s) (d' := d) ⟨rfl, rfl⟩ rfl (Or.inl rfl)  (by simp [re_cat, vc_i, vc_l, vc_r, vc_n, vc_a]) (by rw [show re_cat (.ref ae1 :: [].reverse) = 1 from by simp [re_cat, vc_i, vc_l, vc_r, vc_n, vc_a]]; decide) (by decide) rfl eg ec rfl (Nat.le_of_eq (Nat.zero_add s)) ?_
  rw [eA]
  exact wp_mono K (fun k v h' z => wp_ret_weak (re_sb_at rfl (re_sb_at rfl (re_sb_nil _))) z)
theorem B20_55 {SC : List Value} {d s : Nat} {h : re_H} {Q : Nat → Value → re_H → Prop} {a0 : Nat} {a3 : Nat}
    {ae1 : Nat} (e2 : nb_fd h a0 0 6 (.ref ae1)) {c : Nat} {w : List Value} (eg : re_hg h a0 = some (c, w)) (ec : c = 0) (K : wp SC 17 d 0 0 [(0, .ref a0)] [] h (wp_ret SC 20 (d + 1) s 63 [(3, .ref a3)] [.ref ae1] Q)) : wp SC 20 (d + 1) s 55 [(0, .ref a0), (3, .ref a3)] [] h Q := by
  refine wp_run 1 (pc' := 56) (lv' := [(0, .ref a0), (3, .ref a3)]) (st' := [.ref a0]) rfl ?_
  obtain ⟨w2, e2a, e2b⟩ := e2
  refine wp_gf ⟨rfl, rfl⟩ rfl e2a e2b ?_
  refine wp_run 1 (pc' := 60) (lv' := [(0, .ref a0), (3, .ref a3)]) (st' := [.ref a0, .ref ae1]) rfl ?_
  have eA : lv_args 0 (.ref a0 :: [].reverse) = [(0, .ref a0)] := by simp [lv_args, vc_i, vc_l, vc_r, vc_n, vc_a]
  refine wp_callV (ar := []) (rest := [.ref ae1]) (s1 := 0) (s2 := s) (d' := d) ⟨rfl, rfl⟩ rfl (Or.inl rfl)  (by simp [re_cat, vc_i, vc_l, vc_r, vc_n, vc_a]) (by rw [show re_cat (.ref a0 :: [].reverse) = 1 from by simp [re_cat, vc_i, vc_l, vc_r, vc_n, vc_a]]; decide) (by decide) rfl eg ec rfl (Nat.le_of_eq (Nat.zero_add s)) ?_
  rw [eA]
  exact wp_mono K (fun k v h' z => wp_ret_weak (re_sb_at rfl (re_sb_nil _)) z)
theorem B20_63 {SC : List Value} {d s : Nat} {h : re_H} {Q : Nat → Value → re_H → Prop} {a3 : Nat} {xs0 : Int32} {as1 : Nat}
    {c : Nat} {w : List Value} (eg : re_hg h as1 = some (c, w)) (ec : c = 8) (K : wp SC 513 d 0 0 [(0, .ref as1), (1, .int xs0)] [] h (wp_ret SC 20 (d + 1) s 66 [(3, .ref a3)] [] Q)) : wp SC 20 (d + 1) s 63 [(3, .ref a3)] [.int xs0, .ref as1] h Q := by
  have eA : lv_args 0 (.ref as1 :: [.int xs0].reverse) = [(0, .ref as1), (1, .int xs0)] := by simp [lv_args, vc_i, vc_l, vc_r, vc_n, vc_a]
  refine wp_callV (ar := [.int xs0]) (rest := []) (s1 := 0) (s2 := s) (d' := d) ⟨rfl, rfl⟩ rfl (Or.inl rfl)  (by simp [re_cat, vc_i, vc_l, vc_r, vc_n, vc_a]) (by rw [show re_cat (.ref as1 :: [.int xs0].reverse) = 2 from by simp [re_cat, vc_i, vc_l, vc_r, vc_n, vc_a]]; decide) (by decide) rfl eg ec rfl (Nat.le_of_eq (Nat.zero_add s)) ?_
  rw [eA]
  exact wp_mono K (fun k v h' z => wp_ret_weak (re_sb_at rfl (re_sb_nil _)) z)
theorem B20_66 {SC : List Value} {d s : Nat} {h : re_H} {Q : Nat → Value → re_H → Prop} {a3 : Nat} {xs0 : Int32}
    {xe1 : Int32} (e2 : nb_fd h a3 2 0 (.int xe1)) (K : Q 1 (.int xe1) h) : wp SC 20 d s 66 [(3, .ref a3)] [.int xs0] h Q := by
  refine wp_run 2 (pc' := 68) (lv' := [(3, .ref a3)]) (st' := [.ref a3]) rfl ?_
  obtain ⟨w2, e2a, e2b⟩ := e2
  refine wp_gf ⟨rfl, rfl⟩ rfl e2a e2b ?_
  exact wp_reti ⟨rfl, rfl⟩ rfl K
theorem B21_0 {SC : List Value} {d s : Nat} {h : re_H} {Q : Nat → Value → re_H → Prop} {a0 : Nat} {x1 : Int32}
    {c : Nat} {w : List Value} (eg : re_hg h a0 = some (c, w)) (ec : c = 0) {s1 s2 : Nat} (hs : s1 + s2 ≤ s) (K : wp SC 19 d s1 0 [(0, .ref a0), (1, .int x1)] [] h (wp_ret SC 21 (d + 1) s2 5 [(0, .ref a0), (1, .int x1)] [] Q)) : wp SC 21 (d + 1) s 0 [(0, .ref a0), (1, .int x1)] [] h Q := by
  refine wp_run 2 (pc' := 2) (lv' := [(0, .ref a0), (1, .int x1)]) (st' := [.int x1, .ref a0]) rfl ?_
  have eA : lv_args 0 (.ref a0 :: [.int x1].reverse) = [(0, .ref a0), (1, .int x1)] := by simp [lv_args, vc_i, vc_l, vc_r, vc_n, vc_a]
  refine wp_callV (ar := [.int x1]) (rest := []) (s1 := s1) (s2 := s2) (d' := d) ⟨rfl, rfl⟩ rfl (Or.inl rfl)  (by simp [re_cat, vc_i, vc_l, vc_r, vc_n, vc_a]) (by rw [show re_cat (.ref a0 :: [.int x1].reverse) = 2 from by simp [re_cat, vc_i, vc_l, vc_r, vc_n, vc_a]]; decide) (by decide) rfl eg ec rfl hs ?_
  rw [eA]
  exact wp_mono K (fun k v h' z => wp_ret_weak (re_sb_at rfl (re_sb_at rfl (re_sb_nil _))) z)
theorem B21_5 {SC : List Value} {d s : Nat} {h : re_H} {Q : Nat → Value → re_H → Prop} {a0 : Nat} {x1 : Int32}
    {ae1 : Nat} (e2 : nb_fd h a0 0 2 (.ref ae1)) {c : Nat} {w : List Value} (eg : re_hg h ae1 = some (c, w)) (ec : c = 1) (K : wp SC 66 d 0 0 [(0, .ref ae1), (1, .int x1)] [] h (wp_ret SC 21 (d + 1) s 13 [(0, .ref a0), (1, .int x1)] [] Q)) : wp SC 21 (d + 1) s 5 [(0, .ref a0), (1, .int x1)] [] h Q := by
  refine wp_run 1 (pc' := 6) (lv' := [(0, .ref a0), (1, .int x1)]) (st' := [.ref a0]) rfl ?_
  obtain ⟨w2, e2a, e2b⟩ := e2
  refine wp_gf ⟨rfl, rfl⟩ rfl e2a e2b ?_
  refine wp_run 1 (pc' := 10) (lv' := [(0, .ref a0), (1, .int x1)]) (st' := [.int x1, .ref ae1]) rfl ?_
  have eA : lv_args 0 (.ref ae1 :: [.int x1].reverse) = [(0, .ref ae1), (1, .int x1)] := by simp [lv_args, vc_i, vc_l, vc_r, vc_n, vc_a]
  refine wp_callV (ar := [.int x1]) (rest := []) (s1 := 0) (s2 := s) (d' := d) ⟨rfl, rfl⟩ rfl (Or.inl rfl)  (by simp [re_cat, vc_i, vc_l, vc_r, vc_n, vc_a]) (by rw [show re_cat (.ref ae1 :: [.int x1].reverse) = 2 from by simp [re_cat, vc_i, vc_l, vc_r, vc_n, vc_a]]; decide) (by decide) rfl eg ec rfl (Nat.le_of_eq (Nat.zero_add s)) ?_
  rw [eA]
  exact wp_mono K (fun k v h' z => wp_ret_weak (re_sb_at rfl (re_sb_at rfl (re_sb_nil _))) z)
theorem B21_13 {SC : List Value} {d s : Nat} {h : re_H} {Q : Nat → Value → re_H → Prop} {a0 : Nat} {x1 : Int32}
    {ae1 : Nat} (e2 : nb_fd h a0 0 6 (.ref ae1)) {c : Nat} {w : List Value} (eg : re_hg h ae1 = some (c, w)) (ec : c = 8) (K : wp SC 521 d 0 0 [(0, .ref ae1), (1, .int x1)] [] h (wp_ret SC 21 (d + 1) s 21 [(0, .ref a0)] [] Q)) : wp SC 21 (d + 1) s 13 [(0, .ref a0), (1, .int x1)] [] h Q := by
  refine wp_run 1 (pc' := 14) (lv' := [(0, .ref a0), (1, .int x1)]) (st' := [.ref a0]) rfl ?_
  obtain ⟨w2, e2a, e2b⟩ := e2
  refine wp_gf ⟨rfl, rfl⟩ rfl e2a e2b ?_
  refine wp_run 1 (pc' := 18) (lv' := [(0, .ref a0), (1, .int x1)]) (st' := [.int x1, .ref ae1]) rfl ?_
  have eA : lv_args 0 (.ref ae1 :: [.int x1].reverse) = [(0, .ref ae1), (1, .int x1)] := by simp [lv_args, vc_i, vc_l, vc_r, vc_n, vc_a]
  refine wp_callV (ar := [.int x1]) (rest := []) (s1 := 0) (s2 := s) (d' := d) ⟨rfl, rfl⟩ rfl (Or.inl rfl)  (by simp [re_cat, vc_i, vc_l, vc_r, vc_n, vc_a]) (by rw [show re_cat (.ref ae1 :: [.int x1].reverse) = 2 from by simp [re_cat, vc_i, vc_l, vc_r, vc_n, vc_a]]; decide) (by decide) rfl eg ec rfl (Nat.le_of_eq (Nat.zero_add s)) ?_
  rw [eA]
  exact wp_mono K (fun k v h' z => wp_ret_weak (re_sb_at rfl (re_sb_nil _)) z)
theorem B21_21 {SC : List Value} {d s : Nat} {h : re_H} {Q : Nat → Value → re_H → Prop} {a0 : Nat}
    {ae1 : Nat} (e2 : nb_fd h a0 0 4 (.ref ae1)) {c : Nat} {w : List Value} (eg : re_hg h ae1 = some (c, w)) (ec : c = 3) (K : wp SC 193 d 0 0 [(0, .ref ae1)] [] h (wp_ret SC 21 (d + 1) s 28 [(0, .ref a0)] [] Q)) : wp SC 21 (d + 1) s 21 [(0, .ref a0)] [] h Q := by
  refine wp_run 1 (pc' := 22) (lv' := [(0, .ref a0)]) (st' := [.ref a0]) rfl ?_
  obtain ⟨w2, e2a, e2b⟩ := e2
  refine wp_gf ⟨rfl, rfl⟩ rfl e2a e2b ?_
  have eA : lv_args 0 (.ref ae1 :: [].reverse) = [(0, .ref ae1)] := by simp [lv_args, vc_i, vc_l, vc_r, vc_n, vc_a]
  refine wp_callV (ar := []) (rest := []) (s1 := 0) (s2 := s) (d' := d) ⟨rfl, rfl⟩ rfl (Or.inl rfl)  (by simp [re_cat, vc_i, vc_l, vc_r, vc_n, vc_a]) (by rw [show re_cat (.ref ae1 :: [].reverse) = 1 from by simp [re_cat, vc_i, vc_l, vc_r, vc_n, vc_a]]; decide) (by decide) rfl eg ec rfl (Nat.le_of_eq (Nat.zero_add s)) ?_
  rw [eA]
  exact wp_mono K (fun k v h' z => wp_ret_weak (re_sb_at rfl (re_sb_nil _)) z)
theorem B21_28 {SC : List Value} {d s : Nat} {h : re_H} {Q : Nat → Value → re_H → Prop} {a0 : Nat}
    {ae1 : Nat} (e2 : nb_fd h a0 0 6 (.ref ae1)) {c : Nat} {w : List Value} (eg : re_hg h a0 = some (c, w)) (ec : c = 0) (K : wp SC 17 d 0 0 [(0, .ref a0)] [] h (wp_ret SC 21 (d + 1) s 36 [(0, .ref a0)] [.ref ae1] Q)) : wp SC 21 (d + 1) s 28 [(0, .ref a0)] [] h Q := by
  refine wp_run 1 (pc' := 29) (lv' := [(0, .ref a0)]) (st' := [.ref a0]) rfl ?_
  obtain ⟨w2, e2a, e2b⟩ := e2
  refine wp_gf ⟨rfl, rfl⟩ rfl e2a e2b ?_
  refine wp_run 1 (pc' := 33) (lv' := [(0, .ref a0)]) (st' := [.ref a0, .ref ae1]) rfl ?_
  have eA : lv_args 0 (.ref a0 :: [].reverse) = [(0, .ref a0)] := by simp [lv_args, vc_i, vc_l, vc_r, vc_n, vc_a]
  refine wp_callV (ar := []) (rest := [.ref ae1]) (s1 := 0) (s2 := s) (d' := d) ⟨rfl, rfl⟩ rfl (Or.inl rfl)  (by simp [re_cat, vc_i, vc_l, vc_r, vc_n, vc_a]) (by rw [show re_cat (.ref a0 :: [].reverse) = 1 from by simp [re_cat, vc_i, vc_l, vc_r, vc_n, vc_a]]; decide) (by decide) rfl eg ec rfl (Nat.le_of_eq (Nat.zero_add s)) ?_
  rw [eA]
  exact wp_mono K (fun k v h' z => wp_ret_weak (re_sb_at rfl (re_sb_nil _)) z)
theorem B21_36 {SC : List Value} {d s : Nat} {h : re_H} {Q : Nat → Value → re_H → Prop} {a0 : Nat} {xs0 : Int32} {as1 : Nat}
    {c : Nat} {w : List Value} (eg : re_hg h as1 = some (c, w)) (ec : c = 8) (K : wp SC 513 d 0 0 [(0, .ref as1), (1, .int xs0)] [] h (wp_ret SC 21 (d + 1) s 39 [(0, .ref a0)] [] Q)) : wp SC 21 (d + 1) s 36 [(0, .ref a0)] [.int xs0, .ref as1] h Q := by
  have eA : lv_args 0 (.ref as1 :: [.int xs0].reverse) = [(0, .ref as1), (1, .int xs0)] := by simp [lv_args, vc_i, vc_l, vc_r, vc_n, vc_a]
  refine wp_callV (ar := [.int xs0]) (rest := []) (s1 := 0) (s2 := s) (d' := d) ⟨rfl, rfl⟩ rfl (Or.inl rfl)  (by simp [re_cat, vc_i, vc_l, vc_r, vc_n, vc_a]) (by rw [show re_cat (.ref as1 :: [.int xs0].reverse) = 2 from by simp [re_cat, vc_i, vc_l, vc_r, vc_n, vc_a]]; decide) (by decide) rfl eg ec rfl (Nat.le_of_eq (Nat.zero_add s)) ?_
  rw [eA]
  exact wp_mono K (fun k v h' z => wp_ret_weak (re_sb_at rfl (re_sb_nil _)) z)
theorem B21_39 {SC : List Value} {d s : Nat} {h : re_H} {Q : Nat → Value → re_H → Prop} {a0 : Nat} {xs0 : Int32}
    {ae1 : Nat} (e2 : nb_fd h a0 0 2 (.ref ae1)) {c : Nat} {w : List Value} (eg : re_hg h ae1 = some (c, w)) (ec : c = 1) (K : wp SC 65 d 0 0 [(0, .ref ae1)] [] h (wp_ret SC 21 (d + 1) s 47 [] [] Q)) : wp SC 21 (d + 1) s 39 [(0, .ref a0)] [.int xs0] h Q := by
  refine wp_run 2 (pc' := 41) (lv' := [(0, .ref a0)]) (st' := [.ref a0]) rfl ?_
  obtain ⟨w2, e2a, e2b⟩ := e2
  refine wp_gf ⟨rfl, rfl⟩ rfl e2a e2b ?_
  have eA : lv_args 0 (.ref ae1 :: [].reverse) = [(0, .ref ae1)] := by simp [lv_args, vc_i, vc_l, vc_r, vc_n, vc_a]
  refine wp_callV (ar := []) (rest := []) (s1 := 0) (s2 := s) (d' := d) ⟨rfl, rfl⟩ rfl (Or.inl rfl)  (by simp [re_cat, vc_i, vc_l, vc_r, vc_n, vc_a]) (by rw [show re_cat (.ref ae1 :: [].reverse) = 1 from by simp [re_cat, vc_i, vc_l, vc_r, vc_n, vc_a]]; decide) (by decide) rfl eg ec rfl (Nat.le_of_eq (Nat.zero_add s)) ?_
  rw [eA]
  exact wp_mono K (fun k v h' z => wp_ret_weak (re_sb_nil _) z)
theorem B21_47 {SC : List Value} {d s : Nat} {h : re_H} {Q : Nat → Value → re_H → Prop} {xs0 : Int32}
    (K : wp SC 768 d 0 0 [(0, .int xs0)] [] h (wp_ret SC 21 (d + 1) s 50 [] [] Q)) : wp SC 21 (d + 1) s 47 [] [.int xs0] h Q := by
  have eA : lv_args 0 ([.int xs0].reverse) = [(0, .int xs0)] := by simp [lv_args, vc_i, vc_l, vc_r, vc_n, vc_a]
  refine wp_callS (ar := [.int xs0]) (rest := []) (s1 := 0) (s2 := s) (d' := d) ⟨rfl, rfl⟩ rfl (Or.inl rfl) rfl (by simp [re_cat, vc_i, vc_l, vc_r, vc_n, vc_a]) (by rw [show re_cat ([.int xs0].reverse) = 1 from by simp [re_cat, vc_i, vc_l, vc_r, vc_n, vc_a]]; decide) (by decide) rfl rfl (Nat.le_of_eq (Nat.zero_add s)) ?_
  rw [eA]
  exact wp_mono K (fun k v h' z => wp_ret_weak (re_sb_nil _) z)
theorem B21_50 {SC : List Value} {d s : Nat} {h : re_H} {Q : Nat → Value → re_H → Prop} {xs0 : Int32}
    (K : Q 1 (.int xs0) h) : wp SC 21 d s 50 [] [.int xs0] h Q := by
  exact wp_reti ⟨rfl, rfl⟩ rfl K
theorem B22_0 {SC : List Value} {d s : Nat} {h : re_H} {Q : Nat → Value → re_H → Prop} {a0 : Nat} {x1 : Int32} {x2 : Int32}
    {c : Nat} {w : List Value} (eg : re_hg h a0 = some (c, w)) (ec : c = 0) {s1 s2 : Nat} (hs : s1 + s2 ≤ s) (K : wp SC 5 d s1 0 [(0, .ref a0), (1, .int x1)] [] h (wp_ret SC 22 (d + 1) s2 5 [(0, .ref a0), (1, .int x1), (2, .int x2)] [] Q)) : wp SC 22 (d + 1) s 0 [(0, .ref a0), (1, .int x1), (2, .int x2)] [] h Q := by
  refine wp_run 2 (pc' := 2) (lv' := [(0, .ref a0), (1, .int x1), (2, .int x2)]) (st' := [.int x1, .ref a0]) rfl ?_
  have eA : lv_args 0 (.ref a0 :: [.int x1].reverse) = [(0, .ref a0), (1, .int x1)] := by simp [lv_args, vc_i, vc_l, vc_r, vc_n, vc_a]
  refine wp_callV (ar := [.int x1]) (rest := []) (s1 := s1) (s2 := s2) (d' := d) ⟨rfl, rfl⟩ rfl (Or.inl rfl)  (by simp [re_cat, vc_i, vc_l, vc_r, vc_n, vc_a]) (by rw [show re_cat (.ref a0 :: [.int x1].reverse) = 2 from by simp [re_cat, vc_i, vc_l, vc_r, vc_n, vc_a]]; decide) (by decide) rfl eg ec rfl hs ?_
  rw [eA]
  exact wp_mono K (fun k v h' z => wp_ret_weak (re_sb_at rfl (re_sb_at rfl (re_sb_at rfl (re_sb_nil _)))) z)
theorem B22_5 {SC : List Value} {d s : Nat} {h : re_H} {Q : Nat → Value → re_H → Prop} {a0 : Nat} {x1 : Int32} {x2 : Int32}
    {c : Nat} {w : List Value} (eg : re_hg h a0 = some (c, w)) (ec : c = 0) {s1 s2 : Nat} (hs : s1 + s2 ≤ s) (K : wp SC 5 d s1 0 [(0, .ref a0), (1, .int x2)] [] h (wp_ret SC 22 (d + 1) s2 10 [(0, .ref a0), (1, .int x1), (2, .int x2)] [] Q)) : wp SC 22 (d + 1) s 5 [(0, .ref a0), (1, .int x1), (2, .int x2)] [] h Q := by
  refine wp_run 2 (pc' := 7) (lv' := [(0, .ref a0), (1, .int x1), (2, .int x2)]) (st' := [.int x2, .ref a0]) rfl ?_
  have eA : lv_args 0 (.ref a0 :: [.int x2].reverse) = [(0, .ref a0), (1, .int x2)] := by simp [lv_args, vc_i, vc_l, vc_r, vc_n, vc_a]
  refine wp_callV (ar := [.int x2]) (rest := []) (s1 := s1) (s2 := s2) (d' := d) ⟨rfl, rfl⟩ rfl (Or.inl rfl)  (by simp [re_cat, vc_i, vc_l, vc_r, vc_n, vc_a]) (by rw [show re_cat (.ref a0 :: [.int x2].reverse) = 2 from by simp [re_cat, vc_i, vc_l, vc_r, vc_n, vc_a]]; decide) (by decide) rfl eg ec rfl hs ?_
  rw [eA]
  exact wp_mono K (fun k v h' z => wp_ret_weak (re_sb_at rfl (re_sb_at rfl (re_sb_at rfl (re_sb_nil _)))) z)
theorem B22_10 {SC : List Value} {d s : Nat} {h : re_H} {Q : Nat → Value → re_H → Prop} {a0 : Nat} {x1 : Int32} {x2 : Int32}
    (K1 : x1 = x2 → wp SC 22 d s 26 [] [] h Q) (K2 : ¬ x1 = x2 → wp SC 22 d s 15 [(0, .ref a0), (1, .int x1), (2, .int x2)] [] h Q) : wp SC 22 d s 10 [(0, .ref a0), (1, .int x1), (2, .int x2)] [] h Q := by
  refine wp_run 2 (pc' := 12) (lv' := [(0, .ref a0), (1, .int x1), (2, .int x2)]) (st' := [.int x2, .int x1]) rfl ?_
  exact wp_cmp ⟨rfl, rfl⟩ rfl (fun hc => wp_weak (re_sb_nil _) (K1 (ic1_eq hc))) (fun hc => wp_weak (re_sb_at rfl (re_sb_at rfl (re_sb_at rfl (re_sb_nil _)))) (K2 (ic0_eq hc)))
theorem B22_15 {SC : List Value} {d s : Nat} {h : re_H} {Q : Nat → Value → re_H → Prop} {a0 : Nat} {x1 : Int32} {x2 : Int32}
    {ae1 : Nat} (e2 : nb_fd h a0 0 2 (.ref ae1)) {c : Nat} {w : List Value} (eg : re_hg h ae1 = some (c, w)) (ec : c = 1) (K : wp SC 67 d 0 0 [(0, .ref ae1), (1, .int x2)] [] h (wp_ret SC 22 (d + 1) s 23 [(0, .ref a0), (1, .int x1), (2, .int x2)] [] Q)) : wp SC 22 (d + 1) s 15 [(0, .ref a0), (1, .int x1), (2, .int x2)] [] h Q := by
  refine wp_run 1 (pc' := 16) (lv' := [(0, .ref a0), (1, .int x1), (2, .int x2)]) (st' := [.ref a0]) rfl ?_
  obtain ⟨w2, e2a, e2b⟩ := e2
  refine wp_gf ⟨rfl, rfl⟩ rfl e2a e2b ?_
  refine wp_run 1 (pc' := 20) (lv' := [(0, .ref a0), (1, .int x1), (2, .int x2)]) (st' := [.int x2, .ref ae1]) rfl ?_
  have eA : lv_args 0 (.ref ae1 :: [.int x2].reverse) = [(0, .ref ae1), (1, .int x2)] := by simp [lv_args, vc_i, vc_l, vc_r, vc_n, vc_a]
  refine wp_callV (ar := [.int x2]) (rest := []) (s1 := 0) (s2 := s) (d' := d) ⟨rfl, rfl⟩ rfl (Or.inl rfl)  (by simp [re_cat, vc_i, vc_l, vc_r, vc_n, vc_a]) (by rw [show re_cat (.ref ae1 :: [.int x2].reverse) = 2 from by simp [re_cat, vc_i, vc_l, vc_r, vc_n, vc_a]]; decide) (by decide) rfl eg ec rfl (Nat.le_of_eq (Nat.zero_add s)) ?_
  rw [eA]
  exact wp_mono K (fun k v h' z => wp_ret_weak (re_sb_at rfl (re_sb_at rfl (re_sb_at rfl (re_sb_nil _)))) z)
theorem B22_23 {SC : List Value} {d s : Nat} {h : re_H} {Q : Nat → Value → re_H → Prop} {a0 : Nat} {x1 : Int32} {x2 : Int32} {xs0 : Int32}
    (K1 : xs0 = 0 → wp SC 22 d s 36 [(0, .ref a0), (1, .int x1), (2, .int x2)] [] h Q) (K2 : ¬ xs0 = 0 → wp SC 22 d s 26 [] [] h Q) : wp SC 22 d s 23 [(0, .ref a0), (1, .int x1), (2, .int x2)] [.int xs0] h Q := by
  exact wp_if ⟨rfl, rfl⟩ rfl (fun hc => wp_weak (re_sb_at rfl (re_sb_at rfl (re_sb_at rfl (re_sb_nil _)))) (K1 (ic1_eq hc))) (fun hc => wp_weak (re_sb_nil _) (K2 (ic0_eq hc)))
theorem B22_26 {SC : List Value} {d s : Nat} {h : re_H} {Q : Nat → Value → re_H → Prop} 
    (hs : 0 < s) (K : Q 4 .null h) : wp SC 22 d s 26 [] [] h Q := by
  exact wp_throw rfl hs (by simp [re_cat, vc_i, vc_l, vc_r, vc_n, vc_a]) K
theorem B22_36 {SC : List Value} {d s : Nat} {h : re_H} {Q : Nat → Value → re_H → Prop} {a0 : Nat} {x1 : Int32} {x2 : Int32}
    {ae1 : Nat} (e2 : nb_fd h a0 0 4 (.ref ae1)) {ae3 : Nat} (e4 : nb_fd h ae1 3 1 (.ref ae3)) {xe5 : Int32} (e6 : nb_ar h ae3 100 x1 (.int xe5)) (K1 : ¬ xe5 = 0 → wp SC 22 d s 50 [(0, .ref a0), (1, .int x1), (2, .int x2)] [] h Q) (K2 : xe5 = 0 → wp SC 22 d s 48 [] [] h Q) : wp SC 22 d s 36 [(0, .ref a0), (1, .int x1), (2, .int x2)] [] h Q := by
  refine wp_run 1 (pc' := 37) (lv' := [(0, .ref a0), (1, .int x1), (2, .int x2)]) (st' := [.ref a0]) rfl ?_
  obtain ⟨w2, e2a, e2b⟩ := e2
  refine wp_gf ⟨rfl, rfl⟩ rfl e2a e2b ?_
  obtain ⟨w4, e4a, e4b⟩ := e4
  refine wp_gf ⟨rfl, rfl⟩ rfl e4a e4b ?_
  refine wp_run 1 (pc' := 44) (lv' := [(0, .ref a0), (1, .int x1), (2, .int x2)]) (st' := [.int x1, .ref ae3]) rfl ?_
  obtain ⟨w6, i6, e6a, e6x, e6i, e6v⟩ := e6
  refine wp_ial ⟨rfl, rfl⟩ e6a rfl e6x e6i e6v ?_
  exact wp_if ⟨rfl, rfl⟩ rfl (fun hc => wp_weak (re_sb_at rfl (re_sb_at rfl (re_sb_at rfl (re_sb_nil _)))) (K1 (ic1_ne hc))) (fun hc => wp_weak (re_sb_nil _) (K2 (ic0_ne hc)))
theorem B22_48 {SC : List Value} {d s : Nat} {h : re_H} {Q : Nat → Value → re_H → Prop} 
    (K : Q 1 (.int (i32 0)) h) : wp SC 22 d s 48 [] [] h Q := by
  refine wp_run 1 (pc' := 49) (lv' := []) (st' := [.int (i32 0)]) rfl ?_
  exact wp_reti ⟨rfl, rfl⟩ rfl K
theorem B22_50 {SC : List Value} {d s : Nat} {h : re_H} {Q : Nat → Value → re_H → Prop} {a0 : Nat} {x1 : Int32} {x2 : Int32}
    {ae1 : Nat} (e2 : nb_fd h a0 0 2 (.ref ae1)) {c : Nat} {w : List Value} (eg : re_hg h ae1 = some (c, w)) (ec : c = 1) (K : wp SC 68 d 0 0 [(0, .ref ae1), (1, .int x1), (2, .int x2)] [] h (wp_ret SC 22 (d + 1) s 59 [(0, .ref a0)] [] Q)) : wp SC 22 (d + 1) s 50 [(0, .ref a0), (1, .int x1), (2, .int x2)] [] h Q := by
  refine wp_run 1 (pc' := 51) (lv' := [(0, .ref a0), (1, .int x1), (2, .int x2)]) (st' := [.ref a0]) rfl ?_
  obtain ⟨w2, e2a, e2b⟩ := e2
  refine wp_gf ⟨rfl, rfl⟩ rfl e2a e2b ?_
  refine wp_run 2 (pc' := 56) (lv' := [(0, .ref a0), (1, .int x1), (2, .int x2)]) (st' := [.int x2, .int x1, .ref ae1]) rfl ?_
  have eA : lv_args 0 (.ref ae1 :: [.int x2, .int x1].reverse) = [(0, .ref ae1), (1, .int x1), (2, .int x2)] := by simp [lv_args, vc_i, vc_l, vc_r, vc_n, vc_a]
  refine wp_callV (ar := [.int x2, .int x1]) (rest := []) (s1 := 0) (s2 := s) (d' := d) ⟨rfl, rfl⟩ rfl (Or.inl rfl)  (by simp [re_cat, vc_i, vc_l, vc_r, vc_n, vc_a]) (by rw [show re_cat (.ref ae1 :: [.int x2, .int x1].reverse) = 3 from by simp [re_cat, vc_i, vc_l, vc_r, vc_n, vc_a]]; decide) (by decide) rfl eg ec rfl (Nat.le_of_eq (Nat.zero_add s)) ?_
  rw [eA]
  exact wp_mono K (fun k v h' z => wp_ret_weak (re_sb_at rfl (re_sb_nil _)) z)
theorem B22_59 {SC : List Value} {d s : Nat} {h : re_H} {Q : Nat → Value → re_H → Prop} {a0 : Nat} {xs0 : Int32}
    {ae1 : Nat} (e2 : nb_fd h a0 0 4 (.ref ae1)) {c : Nat} {w : List Value} (eg : re_hg h ae1 = some (c, w)) (ec : c = 3) (K : wp SC 193 d 0 0 [(0, .ref ae1)] [] h (wp_ret SC 22 (d + 1) s 67 [(0, .ref a0), (3, .int xs0)] [] Q)) : wp SC 22 (d + 1) s 59 [(0, .ref a0)] [.int xs0] h Q := by
  refine wp_run 2 (pc' := 61) (lv' := [(3, .int xs0), (0, .ref a0)]) (st' := [.ref a0]) rfl ?_
  obtain ⟨w2, e2a, e2b⟩ := e2
  refine wp_gf ⟨rfl, rfl⟩ rfl e2a e2b ?_
  have eA : lv_args 0 (.ref ae1 :: [].reverse) = [(0, .ref ae1)] := by simp [lv_args, vc_i, vc_l, vc_r, vc_n, vc_a]
  refine wp_callV (ar := []) (rest := []) (s1 := 0) (s2 := s) (d' := d) ⟨rfl, rfl⟩ rfl (Or.inl rfl)  (by simp [re_cat, vc_i, vc_l, vc_r, vc_n, vc_a]) (by rw [show re_cat (.ref ae1 :: [].reverse) = 1 from by simp [re_cat, vc_i, vc_l, vc_r, vc_n, vc_a]]; decide) (by decide) rfl eg ec rfl (Nat.le_of_eq (Nat.zero_add s)) ?_
  rw [eA]
  exact wp_mono K (fun k v h' z => wp_ret_weak (re_sb_at rfl (re_sb_at rfl (re_sb_nil _))) z)
theorem B22_67 {SC : List Value} {d s : Nat} {h : re_H} {Q : Nat → Value → re_H → Prop} {a0 : Nat} {x3 : Int32}
    {ae1 : Nat} (e2 : nb_fd h a0 0 6 (.ref ae1)) {c : Nat} {w : List Value} (eg : re_hg h a0 = some (c, w)) (ec : c = 0) (K : wp SC 17 d 0 0 [(0, .ref a0)] [] h (wp_ret SC 22 (d + 1) s 75 [(3, .int x3)] [.ref ae1] Q)) : wp SC 22 (d + 1) s 67 [(0, .ref a0), (3, .int x3)] [] h Q := by
  refine wp_run 1 (pc' := 68) (lv' := [(0, .ref a0), (3, .int x3)]) (st' := [.ref a0]) rfl ?_
  obtain ⟨w2, e2a, e2b⟩ := e2
  refine wp_gf ⟨rfl, rfl⟩ rfl e2a e2b ?_
  refine wp_run 1 (pc' := 72) (lv' := [(0, .ref a0), (3, .int x3)]) (st' := [.ref a0, .ref ae1]) rfl ?_
  have eA : lv_args 0 (.ref a0 :: [].reverse) = [(0, .ref a0)] := by simp [lv_args, vc_i, vc_l, vc_r, vc_n, vc_a]
  refine wp_callV (ar := []) (rest := [.ref ae1]) (s1 := 0) (s2 := s) (d' := d) ⟨rfl, rfl⟩ rfl (Or.inl rfl)  (by simp [re_cat, vc_i, vc_l, vc_r, vc_n, vc_a]) (by rw [show re_cat (.ref a0 :: [].reverse) = 1 from by simp [re_cat, vc_i, vc_l, vc_r, vc_n, vc_a]]; decide) (by decide) rfl eg ec rfl (Nat.le_of_eq (Nat.zero_add s)) ?_
  rw [eA]
  exact wp_mono K (fun k v h' z => wp_ret_weak (re_sb_at rfl (re_sb_nil _)) z)
theorem B22_75 {SC : List Value} {d s : Nat} {h : re_H} {Q : Nat → Value → re_H → Prop} {x3 : Int32} {xs0 : Int32} {as1 : Nat}
    {c : Nat} {w : List Value} (eg : re_hg h as1 = some (c, w)) (ec : c = 8) (K : wp SC 513 d 0 0 [(0, .ref as1), (1, .int xs0)] [] h (wp_ret SC 22 (d + 1) s 78 [(3, .int x3)] [] Q)) : wp SC 22 (d + 1) s 75 [(3, .int x3)] [.int xs0, .ref as1] h Q := by
  have eA : lv_args 0 (.ref as1 :: [.int xs0].reverse) = [(0, .ref as1), (1, .int xs0)] := by simp [lv_args, vc_i, vc_l, vc_r, vc_n, vc_a]
  refine wp_callV (ar := [.int xs0]) (rest := []) (s1 := 0) (s2 := s) (d' := d) ⟨rfl, rfl⟩ rfl (Or.inl rfl)  (by simp [re_cat, vc_i, vc_l, vc_r, vc_n, vc_a]) (by rw [show re_cat (.ref as1 :: [.int xs0].reverse) = 2 from by simp [re_cat, vc_i, vc_l, vc_r, vc_n, vc_a]]; decide) (by decide) rfl eg ec rfl (Nat.le_of_eq (Nat.zero_add s)) ?_
  rw [eA]
  exact wp_mono K (fun k v h' z => wp_ret_weak (re_sb_at rfl (re_sb_nil _)) z)
theorem B22_78 {SC : List Value} {d s : Nat} {h : re_H} {Q : Nat → Value → re_H → Prop} {x3 : Int32} {xs0 : Int32}
    (K : Q 1 (.int x3) h) : wp SC 22 d s 78 [(3, .int x3)] [.int xs0] h Q := by
  refine wp_run 2 (pc' := 80) (lv' := [(3, .int x3)]) (st' := [.int x3]) rfl ?_
  exact wp_reti ⟨rfl, rfl⟩ rfl K
theorem B23_0 {SC : List Value} {d s : Nat} {h : re_H} {Q : Nat → Value → re_H → Prop} {a0 : Nat} {x1 : Int32} {l2 : Int64}
    {c : Nat} {w : List Value} (eg : re_hg h a0 = some (c, w)) (ec : c = 0) {s1 s2 : Nat} (hs : s1 + s2 ≤ s) (K : wp SC 7 d s1 0 [(0, .ref a0), (1, .int x1)] [] h (wp_ret SC 23 (d + 1) s2 5 [(0, .ref a0), (1, .int x1), (2, .long l2)] [] Q)) : wp SC 23 (d + 1) s 0 [(0, .ref a0), (1, .int x1), (2, .long l2)] [] h Q := by
  refine wp_run 2 (pc' := 2) (lv' := [(0, .ref a0), (1, .int x1), (2, .long l2)]) (st' := [.int x1, .ref a0]) rfl ?_
  have eA : lv_args 0 (.ref a0 :: [.int x1].reverse) = [(0, .ref a0), (1, .int x1)] := by simp [lv_args, vc_i, vc_l, vc_r, vc_n, vc_a]
  refine wp_callV (ar := [.int x1]) (rest := []) (s1 := s1) (s2 := s2) (d' := d) ⟨rfl, rfl⟩ rfl (Or.inl rfl)  (by simp [re_cat, vc_i, vc_l, vc_r, vc_n, vc_a]) (by rw [show re_cat (.ref a0 :: [.int x1].reverse) = 2 from by simp [re_cat, vc_i, vc_l, vc_r, vc_n, vc_a]]; decide) (by decide) rfl eg ec rfl hs ?_
  rw [eA]
  exact wp_mono K (fun k v h' z => wp_ret_weak (re_sb_at rfl (re_sb_at rfl (re_sb_at rfl (re_sb_nil _)))) z)
theorem B23_5 {SC : List Value} {d s : Nat} {h : re_H} {Q : Nat → Value → re_H → Prop} {a0 : Nat} {x1 : Int32} {l2 : Int64}
    {ae1 : Nat} (e2 : nb_fd h a0 0 5 (.ref ae1)) {ae3 : Nat} (e4 : nb_fd h ae1 4 0 (.ref ae3)) {le5 : Int64} (e6 : nb_ar h ae3 101 x1 (.long le5)) {ae7 : Nat} (e8 : nb_fd h a0 0 5 (.ref ae7)) {ae9 : Nat} (e10 : nb_fd h ae7 4 0 (.ref ae9)) {w : List Value} {i : Nat} (e : re_hg h ae9 = some (101, w)) (hx : x1 = i32 i) (hi : i < 2147483648) (hl : i < w.length) (K : wp SC 23 d s 26 [(0, .ref a0), (4, .long le5)] [] (re_hw h ae9 (101, w.set i (.long l2))) Q) : wp SC 23 d s 5 [(0, .ref a0), (1, .int x1), (2, .long l2)] [] h Q := by
  refine wp_run 1 (pc' := 6) (lv' := [(0, .ref a0), (1, .int x1), (2, .long l2)]) (st' := [.ref a0]) rfl ?_
  obtain ⟨w2, e2a, e2b⟩ := e2
  refine wp_gf ⟨rfl, rfl⟩ rfl e2a e2b ?_
  obtain ⟨w4, e4a, e4b⟩ := e4
  refine wp_gf ⟨rfl, rfl⟩ rfl e4a e4b ?_
  refine wp_run 1 (pc' := 13) (lv' := [(0, .ref a0), (1, .int x1), (2, .long l2)]) (st' := [.int x1, .ref ae3]) rfl ?_
  obtain ⟨w6, i6, e6a, e6x, e6i, e6v⟩ := e6
  refine wp_lal ⟨rfl, rfl⟩ e6a rfl e6x e6i e6v ?_
  refine wp_run 2 (pc' := 17) (lv' := [(4, .long le5), (0, .ref a0), (1, .int x1), (2, .long l2)]) (st' := [.ref a0]) rfl ?_
  obtain ⟨w8, e8a, e8b⟩ := e8
  refine wp_gf ⟨rfl, rfl⟩ rfl e8a e8b ?_
  obtain ⟨w10, e10a, e10b⟩ := e10
  refine wp_gf ⟨rfl, rfl⟩ rfl e10a e10b ?_
  refine wp_run 2 (pc' := 25) (lv' := [(4, .long le5), (0, .ref a0), (1, .int x1), (2, .long l2)]) (st' := [.long l2, .int x1, .ref ae9]) rfl ?_
  exact wp_las ⟨rfl, rfl⟩ e rfl hx hi hl (wp_weak (re_sb_at rfl (re_sb_at rfl (re_sb_nil _))) K)
theorem B23_26 {SC : List Value} {d s : Nat} {h : re_H} {Q : Nat → Value → re_H → Prop} {a0 : Nat} {l4 : Int64}
    {ae1 : Nat} (e2 : nb_fd h a0 0 6 (.ref ae1)) {c : Nat} {w : List Value} (eg : re_hg h a0 = some (c, w)) (ec : c = 0) (K : wp SC 17 d 0 0 [(0, .ref a0)] [] h (wp_ret SC 23 (d + 1) s 34 [(4, .long l4)] [.ref ae1] Q)) : wp SC 23 (d + 1) s 26 [(0, .ref a0), (4, .long l4)] [] h Q := by
  refine wp_run 1 (pc' := 27) (lv' := [(0, .ref a0), (4, .long l4)]) (st' := [.ref a0]) rfl ?_
  obtain ⟨w2, e2a, e2b⟩ := e2
  refine wp_gf ⟨rfl, rfl⟩ rfl e2a e2b ?_
  refine wp_run 1 (pc' := 31) (lv' := [(0, .ref a0), (4, .long l4)]) (st' := [.ref a0, .ref ae1]) rfl ?_
  have eA : lv_args 0 (.ref a0 :: [].reverse) = [(0, .ref a0)] := by simp [lv_args, vc_i, vc_l, vc_r, vc_n, vc_a]
  refine wp_callV (ar := []) (rest := [.ref ae1]) (s1 := 0) (s2 := s) (d' := d) ⟨rfl, rfl⟩ rfl (Or.inl rfl)  (by simp [re_cat, vc_i, vc_l, vc_r, vc_n, vc_a]) (by rw [show re_cat (.ref a0 :: [].reverse) = 1 from by simp [re_cat, vc_i, vc_l, vc_r, vc_n, vc_a]]; decide) (by decide) rfl eg ec rfl (Nat.le_of_eq (Nat.zero_add s)) ?_
  rw [eA]
  exact wp_mono K (fun k v h' z => wp_ret_weak (re_sb_at rfl (re_sb_nil _)) z)
theorem B23_34 {SC : List Value} {d s : Nat} {h : re_H} {Q : Nat → Value → re_H → Prop} {l4 : Int64} {xs0 : Int32} {as1 : Nat}
    {c : Nat} {w : List Value} (eg : re_hg h as1 = some (c, w)) (ec : c = 8) (K : wp SC 513 d 0 0 [(0, .ref as1), (1, .int xs0)] [] h (wp_ret SC 23 (d + 1) s 37 [(4, .long l4)] [] Q)) : wp SC 23 (d + 1) s 34 [(4, .long l4)] [.int xs0, .ref as1] h Q := by
  have eA : lv_args 0 (.ref as1 :: [.int xs0].reverse) = [(0, .ref as1), (1, .int xs0)] := by simp [lv_args, vc_i, vc_l, vc_r, vc_n, vc_a]
  refine wp_callV (ar := [.int xs0]) (rest := []) (s1 := 0) (s2 := s) (d' := d) ⟨rfl, rfl⟩ rfl (Or.inl rfl)  (by simp [re_cat, vc_i, vc_l, vc_r, vc_n, vc_a]) (by rw [show re_cat (.ref as1 :: [.int xs0].reverse) = 2 from by simp [re_cat, vc_i, vc_l, vc_r, vc_n, vc_a]]; decide) (by decide) rfl eg ec rfl (Nat.le_of_eq (Nat.zero_add s)) ?_
  rw [eA]
  exact wp_mono K (fun k v h' z => wp_ret_weak (re_sb_at rfl (re_sb_nil _)) z)
theorem B23_37 {SC : List Value} {d s : Nat} {h : re_H} {Q : Nat → Value → re_H → Prop} {l4 : Int64} {xs0 : Int32}
    (K : Q 2 (.long l4) h) : wp SC 23 d s 37 [(4, .long l4)] [.int xs0] h Q := by
  refine wp_run 2 (pc' := 40) (lv' := [(4, .long l4)]) (st' := [.long l4]) rfl ?_
  exact wp_retl ⟨rfl, rfl⟩ rfl K
theorem B24_0 {SC : List Value} {d s : Nat} {h : re_H} {Q : Nat → Value → re_H → Prop} {a0 : Nat} {x1 : Int32}
    {ae1 : Nat} (e2 : nb_fd h a0 0 5 (.ref ae1)) {xe3 : Int32} (e4 : nb_fd h ae1 4 1 (.int xe3)) {ae5 : Nat} (e6 : nb_fd h a0 0 5 (.ref ae5)) {w : List Value} (e : re_hg h ae5 = some (4, w)) (hk : 1 < w.length) (K : wp SC 24 d s 16 [(0, .ref a0), (2, .int xe3)] [] (re_hw h ae5 (4, w.set 1 (.int x1))) Q) : wp SC 24 d s 0 [(0, .ref a0), (1, .int x1)] [] h Q := by
  refine wp_run 1 (pc' := 1) (lv' := [(0, .ref a0), (1, .int x1)]) (st' := [.ref a0]) rfl ?_
  obtain ⟨w2, e2a, e2b⟩ := e2
  refine wp_gf ⟨rfl, rfl⟩ rfl e2a e2b ?_
  obtain ⟨w4, e4a, e4b⟩ := e4
  refine wp_gf ⟨rfl, rfl⟩ rfl e4a e4b ?_
  refine wp_run 2 (pc' := 9) (lv' := [(2, .int xe3), (0, .ref a0), (1, .int x1)]) (st' := [.ref a0]) rfl ?_
  obtain ⟨w6, e6a, e6b⟩ := e6
  refine wp_gf ⟨rfl, rfl⟩ rfl e6a e6b ?_
  refine wp_run 1 (pc' := 13) (lv' := [(2, .int xe3), (0, .ref a0), (1, .int x1)]) (st' := [.int x1, .ref ae5]) rfl ?_
  exact wp_pf ⟨rfl, rfl⟩ rfl (Or.inl rfl) e hk (fit_i _) (wp_weak (re_sb_at rfl (re_sb_at rfl (re_sb_nil _))) K)
theorem B24_16 {SC : List Value} {d s : Nat} {h : re_H} {Q : Nat → Value → re_H → Prop} {a0 : Nat} {x2 : Int32}
    {ae1 : Nat} (e2 : nb_fd h a0 0 6 (.ref ae1)) {c : Nat} {w : List Value} (eg : re_hg h a0 = some (c, w)) (ec : c = 0) (K : wp SC 17 d 0 0 [(0, .ref a0)] [] h (wp_ret SC 24 (d + 1) s 24 [(2, .int x2)] [.ref ae1] Q)) : wp SC 24 (d + 1) s 16 [(0, .ref a0), (2, .int x2)] [] h Q := by
  refine wp_run 1 (pc' := 17) (lv' := [(0, .ref a0), (2, .int x2)]) (st' := [.ref a0]) rfl ?_
  obtain ⟨w2, e2a, e2b⟩ := e2
  refine wp_gf ⟨rfl, rfl⟩ rfl e2a e2b ?_
  refine wp_run 1 (pc' := 21) (lv' := [(0, .ref a0), (2, .int x2)]) (st' := [.ref a0, .ref ae1]) rfl ?_
  have eA : lv_args 0 (.ref a0 :: [].reverse) = [(0, .ref a0)] := by simp [lv_args, vc_i, vc_l, vc_r, vc_n, vc_a]
  refine wp_callV (ar := []) (rest := [.ref ae1]) (s1 := 0) (s2 := s) (d' := d) ⟨rfl, rfl⟩ rfl (Or.inl rfl)  (by simp [re_cat, vc_i, vc_l, vc_r, vc_n, vc_a]) (by rw [show re_cat (.ref a0 :: [].reverse) = 1 from by simp [re_cat, vc_i, vc_l, vc_r, vc_n, vc_a]]; decide) (by decide) rfl eg ec rfl (Nat.le_of_eq (Nat.zero_add s)) ?_
  rw [eA]
  exact wp_mono K (fun k v h' z => wp_ret_weak (re_sb_at rfl (re_sb_nil _)) z)
theorem B24_24 {SC : List Value} {d s : Nat} {h : re_H} {Q : Nat → Value → re_H → Prop} {x2 : Int32} {xs0 : Int32} {as1 : Nat}
    {c : Nat} {w : List Value} (eg : re_hg h as1 = some (c, w)) (ec : c = 8) (K : wp SC 513 d 0 0 [(0, .ref as1), (1, .int xs0)] [] h (wp_ret SC 24 (d + 1) s 27 [(2, .int x2)] [] Q)) : wp SC 24 (d + 1) s 24 [(2, .int x2)] [.int xs0, .ref as1] h Q := by
  have eA : lv_args 0 (.ref as1 :: [.int xs0].reverse) = [(0, .ref as1), (1, .int xs0)] := by simp [lv_args, vc_i, vc_l, vc_r, vc_n, vc_a]
  refine wp_callV (ar := [.int xs0]) (rest := []) (s1 := 0) (s2 := s) (d' := d) ⟨rfl, rfl⟩ rfl (Or.inl rfl)  (by simp [re_cat, vc_i, vc_l, vc_r, vc_n, vc_a]) (by rw [show re_cat (.ref as1 :: [.int xs0].reverse) = 2 from by simp [re_cat, vc_i, vc_l, vc_r, vc_n, vc_a]]; decide) (by decide) rfl eg ec rfl (Nat.le_of_eq (Nat.zero_add s)) ?_
  rw [eA]
  exact wp_mono K (fun k v h' z => wp_ret_weak (re_sb_at rfl (re_sb_nil _)) z)
theorem B24_27 {SC : List Value} {d s : Nat} {h : re_H} {Q : Nat → Value → re_H → Prop} {x2 : Int32} {xs0 : Int32}
    (K : Q 1 (.int x2) h) : wp SC 24 d s 27 [(2, .int x2)] [.int xs0] h Q := by
  refine wp_run 2 (pc' := 29) (lv' := [(2, .int x2)]) (st' := [.int x2]) rfl ?_
  exact wp_reti ⟨rfl, rfl⟩ rfl K
theorem B25_0 {SC : List Value} {d s : Nat} {h : re_H} {Q : Nat → Value → re_H → Prop} {a0 : Nat} {x1 : Int32}
    (K1 : x1 < 0 → wp SC 25 d s 9 [] [] h Q) (K2 : ¬ x1 < 0 → wp SC 25 d s 4 [(0, .ref a0), (1, .int x1)] [] h Q) : wp SC 25 d s 0 [(0, .ref a0), (1, .int x1)] [] h Q := by
  refine wp_run 1 (pc' := 1) (lv' := [(0, .ref a0), (1, .int x1)]) (st' := [.int x1]) rfl ?_
  exact wp_if ⟨rfl, rfl⟩ rfl (fun hc => wp_weak (re_sb_nil _) (K1 (ic1_lt hc))) (fun hc => wp_weak (re_sb_at rfl (re_sb_at rfl (re_sb_nil _))) (K2 (ic0_lt hc)))
theorem B25_4 {SC : List Value} {d s : Nat} {h : re_H} {Q : Nat → Value → re_H → Prop} {a0 : Nat} {x1 : Int32}
    (K1 : ¬ (i32 2) < x1 → wp SC 25 d s 19 [(0, .ref a0), (1, .int x1)] [] h Q) (K2 : (i32 2) < x1 → wp SC 25 d s 9 [] [] h Q) : wp SC 25 d s 4 [(0, .ref a0), (1, .int x1)] [] h Q := by
  refine wp_run 2 (pc' := 6) (lv' := [(0, .ref a0), (1, .int x1)]) (st' := [.int (i32 2), .int x1]) rfl ?_
  exact wp_cmp ⟨rfl, rfl⟩ rfl (fun hc => wp_weak (re_sb_at rfl (re_sb_at rfl (re_sb_nil _))) (K1 (ic1_le hc))) (fun hc => wp_weak (re_sb_nil _) (K2 (ic0_le hc)))
theorem B25_9 {SC : List Value} {d s : Nat} {h : re_H} {Q : Nat → Value → re_H → Prop} 
    (hs : 0 < s) (K : Q 5 .null h) : wp SC 25 d s 9 [] [] h Q := by
  exact wp_throw rfl hs (by simp [re_cat, vc_i, vc_l, vc_r, vc_n, vc_a]) K
theorem B25_19 {SC : List Value} {d s : Nat} {h : re_H} {Q : Nat → Value → re_H → Prop} {a0 : Nat} {x1 : Int32}
    {xe1 : Int32} (e2 : nb_fd h a0 0 8 (.int xe1)) {w : List Value} (e : re_hg h a0 = some (0, w)) (hk : 8 < w.length) (K : wp SC 25 d s 29 [(0, .ref a0), (2, .int xe1)] [] (re_hw h a0 (0, w.set 8 (.int x1))) Q) : wp SC 25 d s 19 [(0, .ref a0), (1, .int x1)] [] h Q := by
  refine wp_run 1 (pc' := 20) (lv' := [(0, .ref a0), (1, .int x1)]) (st' := [.ref a0]) rfl ?_
  obtain ⟨w2, e2a, e2b⟩ := e2
  refine wp_gf ⟨rfl, rfl⟩ rfl e2a e2b ?_
  refine wp_run 3 (pc' := 26) (lv' := [(2, .int xe1), (0, .ref a0), (1, .int x1)]) (st' := [.int x1, .ref a0]) rfl ?_
  exact wp_pf ⟨rfl, rfl⟩ rfl (Or.inl rfl) e hk (fit_i _) (wp_weak (re_sb_at rfl (re_sb_at rfl (re_sb_nil _))) K)
theorem B25_29 {SC : List Value} {d s : Nat} {h : re_H} {Q : Nat → Value → re_H → Prop} {a0 : Nat} {x2 : Int32}
    {ae1 : Nat} (e2 : nb_fd h a0 0 6 (.ref ae1)) {c : Nat} {w : List Value} (eg : re_hg h a0 = some (c, w)) (ec : c = 0) (K : wp SC 17 d 0 0 [(0, .ref a0)] [] h (wp_ret SC 25 (d + 1) s 37 [(2, .int x2)] [.ref ae1] Q)) : wp SC 25 (d + 1) s 29 [(0, .ref a0), (2, .int x2)] [] h Q := by
  refine wp_run 1 (pc' := 30) (lv' := [(0, .ref a0), (2, .int x2)]) (st' := [.ref a0]) rfl ?_
  obtain ⟨w2, e2a, e2b⟩ := e2
  refine wp_gf ⟨rfl, rfl⟩ rfl e2a e2b ?_
  refine wp_run 1 (pc' := 34) (lv' := [(0, .ref a0), (2, .int x2)]) (st' := [.ref a0, .ref ae1]) rfl ?_
  have eA : lv_args 0 (.ref a0 :: [].reverse) = [(0, .ref a0)] := by simp [lv_args, vc_i, vc_l, vc_r, vc_n, vc_a]
  refine wp_callV (ar := []) (rest := [.ref ae1]) (s1 := 0) (s2 := s) (d' := d) ⟨rfl, rfl⟩ rfl (Or.inl rfl)  (by simp [re_cat, vc_i, vc_l, vc_r, vc_n, vc_a]) (by rw [show re_cat (.ref a0 :: [].reverse) = 1 from by simp [re_cat, vc_i, vc_l, vc_r, vc_n, vc_a]]; decide) (by decide) rfl eg ec rfl (Nat.le_of_eq (Nat.zero_add s)) ?_
  rw [eA]
  exact wp_mono K (fun k v h' z => wp_ret_weak (re_sb_at rfl (re_sb_nil _)) z)
theorem B25_37 {SC : List Value} {d s : Nat} {h : re_H} {Q : Nat → Value → re_H → Prop} {x2 : Int32} {xs0 : Int32} {as1 : Nat}
    {c : Nat} {w : List Value} (eg : re_hg h as1 = some (c, w)) (ec : c = 8) (K : wp SC 513 d 0 0 [(0, .ref as1), (1, .int xs0)] [] h (wp_ret SC 25 (d + 1) s 40 [(2, .int x2)] [] Q)) : wp SC 25 (d + 1) s 37 [(2, .int x2)] [.int xs0, .ref as1] h Q := by
  have eA : lv_args 0 (.ref as1 :: [.int xs0].reverse) = [(0, .ref as1), (1, .int xs0)] := by simp [lv_args, vc_i, vc_l, vc_r, vc_n, vc_a]
  refine wp_callV (ar := [.int xs0]) (rest := []) (s1 := 0) (s2 := s) (d' := d) ⟨rfl, rfl⟩ rfl (Or.inl rfl)  (by simp [re_cat, vc_i, vc_l, vc_r, vc_n, vc_a]) (by rw [show re_cat (.ref as1 :: [.int xs0].reverse) = 2 from by simp [re_cat, vc_i, vc_l, vc_r, vc_n, vc_a]]; decide) (by decide) rfl eg ec rfl (Nat.le_of_eq (Nat.zero_add s)) ?_
  rw [eA]
  exact wp_mono K (fun k v h' z => wp_ret_weak (re_sb_at rfl (re_sb_nil _)) z)
theorem B25_40 {SC : List Value} {d s : Nat} {h : re_H} {Q : Nat → Value → re_H → Prop} {x2 : Int32} {xs0 : Int32}
    (K : Q 1 (.int x2) h) : wp SC 25 d s 40 [(2, .int x2)] [.int xs0] h Q := by
  refine wp_run 2 (pc' := 42) (lv' := [(2, .int x2)]) (st' := [.int x2]) rfl ?_
  exact wp_reti ⟨rfl, rfl⟩ rfl K
theorem B26_0 {SC : List Value} {d s : Nat} {h : re_H} {Q : Nat → Value → re_H → Prop} {a0 : Nat} {x1 : Int32}
    {c : Nat} {w : List Value} (eg : re_hg h a0 = some (c, w)) (ec : c = 0) {s1 s2 : Nat} (hs : s1 + s2 ≤ s) (K : wp SC 19 d s1 0 [(0, .ref a0), (1, .int x1)] [] h (wp_ret SC 26 (d + 1) s2 5 [(0, .ref a0), (1, .int x1)] [] Q)) : wp SC 26 (d + 1) s 0 [(0, .ref a0), (1, .int x1)] [] h Q := by
  refine wp_run 2 (pc' := 2) (lv' := [(0, .ref a0), (1, .int x1)]) (st' := [.int x1, .ref a0]) rfl ?_
  have eA : lv_args 0 (.ref a0 :: [.int x1].reverse) = [(0, .ref a0), (1, .int x1)] := by simp [lv_args, vc_i, vc_l, vc_r, vc_n, vc_a]
  refine wp_callV (ar := [.int x1]) (rest := []) (s1 := s1) (s2 := s2) (d' := d) ⟨rfl, rfl⟩ rfl (Or.inl rfl)  (by simp [re_cat, vc_i, vc_l, vc_r, vc_n, vc_a]) (by rw [show re_cat (.ref a0 :: [.int x1].reverse) = 2 from by simp [re_cat, vc_i, vc_l, vc_r, vc_n, vc_a]]; decide) (by decide) rfl eg ec rfl hs ?_
  rw [eA]
  exact wp_mono K (fun k v h' z => wp_ret_weak (re_sb_at rfl (re_sb_at rfl (re_sb_nil _))) z)
theorem B26_5 {SC : List Value} {d s : Nat} {h : re_H} {Q : Nat → Value → re_H → Prop} {a0 : Nat} {x1 : Int32}
    {xe1 : Int32} (e2 : nb_fd h a0 0 8 (.int xe1)) (K1 : ¬ xe1 = (i32 2) → wp SC 26 d s 22 [(0, .ref a0), (1, .int x1)] [] h Q) (K2 : xe1 = (i32 2) → wp SC 26 d s 13 [(0, .ref a0), (1, .int x1)] [] h Q) : wp SC 26 d s 5 [(0, .ref a0), (1, .int x1)] [] h Q := by
  refine wp_run 1 (pc' := 6) (lv' := [(0, .ref a0), (1, .int x1)]) (st' := [.ref a0]) rfl ?_
  obtain ⟨w2, e2a, e2b⟩ := e2
  refine wp_gf ⟨rfl, rfl⟩ rfl e2a e2b ?_
  refine wp_run 1 (pc' := 10) (lv' := [(0, .ref a0), (1, .int x1)]) (st' := [.int (i32 2), .int xe1]) rfl ?_
  exact wp_cmp ⟨rfl, rfl⟩ rfl (fun hc => wp_weak (re_sb_at rfl (re_sb_at rfl (re_sb_nil _))) (K1 (ic1_ne hc))) (fun hc => wp_weak (re_sb_at rfl (re_sb_at rfl (re_sb_nil _))) (K2 (ic0_ne hc)))
theorem B26_13 {SC : List Value} {d s : Nat} {h : re_H} {Q : Nat → Value → re_H → Prop} {a0 : Nat} {x1 : Int32}
    {ae1 : Nat} (e2 : nb_fd h a0 0 6 (.ref ae1)) {c : Nat} {w : List Value} (eg : re_hg h ae1 = some (c, w)) (ec : c = 8) (K : wp SC 519 d 0 0 [(0, .ref ae1), (1, .int x1)] [] h (wp_ret SC 26 (d + 1) s 21 [] [] Q)) : wp SC 26 (d + 1) s 13 [(0, .ref a0), (1, .int x1)] [] h Q := by
  refine wp_run 1 (pc' := 14) (lv' := [(0, .ref a0), (1, .int x1)]) (st' := [.ref a0]) rfl ?_
  obtain ⟨w2, e2a, e2b⟩ := e2
  refine wp_gf ⟨rfl, rfl⟩ rfl e2a e2b ?_
  refine wp_run 1 (pc' := 18) (lv' := [(0, .ref a0), (1, .int x1)]) (st' := [.int x1, .ref ae1]) rfl ?_
  have eA : lv_args 0 (.ref ae1 :: [.int x1].reverse) = [(0, .ref ae1), (1, .int x1)] := by simp [lv_args, vc_i, vc_l, vc_r, vc_n, vc_a]
  refine wp_callV (ar := [.int x1]) (rest := []) (s1 := 0) (s2 := s) (d' := d) ⟨rfl, rfl⟩ rfl (Or.inl rfl)  (by simp [re_cat, vc_i, vc_l, vc_r, vc_n, vc_a]) (by rw [show re_cat (.ref ae1 :: [.int x1].reverse) = 2 from by simp [re_cat, vc_i, vc_l, vc_r, vc_n, vc_a]]; decide) (by decide) rfl eg ec rfl (Nat.le_of_eq (Nat.zero_add s)) ?_
  rw [eA]
  exact wp_mono K (fun k v h' z => wp_ret_weak (re_sb_nil _) z)
theorem B26_21 {SC : List Value} {d s : Nat} {h : re_H} {Q : Nat → Value → re_H → Prop} {xs0 : Int32}
    (K : Q 1 (.int xs0) h) : wp SC 26 d s 21 [] [.int xs0] h Q := by
  exact wp_reti ⟨rfl, rfl⟩ rfl K
theorem B26_22 {SC : List Value} {d s : Nat} {h : re_H} {Q : Nat → Value → re_H → Prop} {a0 : Nat} {x1 : Int32}
    {ae1 : Nat} (e2 : nb_fd h a0 0 6 (.ref ae1)) {ae3 : Nat} (e4 : nb_fd h a0 0 4 (.ref ae3)) {ae5 : Nat} (e6 : nb_fd h ae3 3 5 (.ref ae5)) {xe7 : Int32} (e8 : nb_ar h ae5 100 x1 (.int xe7)) {c : Nat} {w : List Value} (eg : re_hg h ae1 = some (c, w)) (ec : c = 8) (K : wp SC 513 d 0 0 [(0, .ref ae1), (1, .int (xe7 ||| ((i32 1) <<< (x1 &&& 31))))] [] h (wp_ret SC 26 (d + 1) s 42 [] [] Q)) : wp SC 26 (d + 1) s 22 [(0, .ref a0), (1, .int x1)] [] h Q := by
  refine wp_run 1 (pc' := 23) (lv' := [(0, .ref a0), (1, .int x1)]) (st' := [.ref a0]) rfl ?_
  obtain ⟨w2, e2a, e2b⟩ := e2
  refine wp_gf ⟨rfl, rfl⟩ rfl e2a e2b ?_
  refine wp_run 1 (pc' := 27) (lv' := [(0, .ref a0), (1, .int x1)]) (st' := [.ref a0, .ref ae1]) rfl ?_
  obtain ⟨w4, e4a, e4b⟩ := e4
  refine wp_gf ⟨rfl, rfl⟩ rfl e4a e4b ?_
  obtain ⟨w6, e6a, e6b⟩ := e6
  refine wp_gf ⟨rfl, rfl⟩ rfl e6a e6b ?_
  refine wp_run 1 (pc' := 34) (lv' := [(0, .ref a0), (1, .int x1)]) (st' := [.int x1, .ref ae5, .ref ae1]) rfl ?_
  obtain ⟨w8, i8, e8a, e8x, e8i, e8v⟩ := e8
  refine wp_ial ⟨rfl, rfl⟩ e8a rfl e8x e8i e8v ?_
  refine wp_run 4 (pc' := 39) (lv' := [(0, .ref a0), (1, .int x1)]) (st' := [.int (xe7 ||| ((i32 1) <<< (x1 &&& 31))), .ref ae1]) rfl ?_
  have eA : lv_args 0 (.ref ae1 :: [.int (xe7 ||| ((i32 1) <<< (x1 &&& 31)))].reverse) = [(0, .ref ae1), (1, .int (xe7 ||| ((i32 1) <<< (x1 &&& 31))))] := by simp [lv_args, vc_i, vc_l, vc_r, vc_n, vc_a]
  refine wp_callV (ar := [.int (xe7 ||| ((i32 1) <<< (x1 &&& 31)))]) (rest := []) (s1 := 0) (s2 := s) (d' := d) ⟨rfl, rfl⟩ rfl (Or.inl rfl)  (by simp [re_cat, vc_i, vc_l, vc_r, vc_n, vc_a]) (by rw [show re_cat (.ref ae1 :: [.int (xe7 ||| ((i32 1) <<< (x1 &&& 31)))].reverse) = 2 from by simp [re_cat, vc_i, vc_l, vc_r, vc_n, vc_a]]; decide) (by decide) rfl eg ec rfl (Nat.le_of_eq (Nat.zero_add s)) ?_
  rw [eA]
  exact wp_mono K (fun k v h' z => wp_ret_weak (re_sb_nil _) z)
theorem B26_42 {SC : List Value} {d s : Nat} {h : re_H} {Q : Nat → Value → re_H → Prop} {xs0 : Int32}
    (K : Q 1 (.int xs0) h) : wp SC 26 d s 42 [] [.int xs0] h Q := by
  exact wp_reti ⟨rfl, rfl⟩ rfl K
