theorem B320_0 {SC : List Value} {d s : Nat} {h : re_H} {Q : Nat → Value → re_H → Prop} {a0 : Nat}
    (K : wp SC 320 d s 4 [(0, .ref a0)] [] h Q) : wp SC 320 d s 0 [(0, .ref a0)] [] h Q := by
  refine wp_run 1 (pc' := 1) (lv' := [(0, .ref a0)]) (st' := [.ref a0]) rfl ?_
  refine wp_obj ⟨rfl, rfl⟩ rfl (by simp [re_cat, vc_i, vc_l, vc_r, vc_n, vc_a]) ?_
  exact wp_weak (re_sb_at rfl (re_sb_nil _)) K
theorem B320_4 {SC : List Value} {d s : Nat} {h : re_H} {Q : Nat → Value → re_H → Prop} {a0 : Nat}
    {w : List Value} (e : re_hg h a0 = some (5, w)) (hk : 0 < w.length) (K : wp SC 320 d s 9 [(0, .ref a0)] [] (re_hw h a0 (5, w.set 0 (.int (-1)))) Q) : wp SC 320 d s 4 [(0, .ref a0)] [] h Q := by
  refine wp_run 2 (pc' := 6) (lv' := [(0, .ref a0)]) (st' := [.int (-1), .ref a0]) rfl ?_
  exact wp_pf ⟨rfl, rfl⟩ rfl (Or.inl rfl) e hk (fit_i _) (wp_weak (re_sb_at rfl (re_sb_nil _)) K)
theorem B320_9 {SC : List Value} {d s : Nat} {h : re_H} {Q : Nat → Value → re_H → Prop} {a0 : Nat}
    {s' i : Nat} (hx : (i32 4) = i32 i) (hn : i * 8 ≤ 536870912) (hs : i + 2 * s' ≤ 11 + 2 * s) (hs' : s' ≤ s) (K : wp SC 320 d s' 13 [(0, .ref a0)] [.ref h.1, .ref a0] (re_hq h (100, List.replicate i (.int 0))) Q) : wp SC 320 d s 9 [(0, .ref a0)] [] h Q := by
  refine wp_run 2 (pc' := 11) (lv' := [(0, .ref a0)]) (st' := [.int (i32 4), .ref a0]) rfl ?_
  exact wp_na ⟨rfl, rfl⟩ hx hn (Or.inl ⟨rfl, rfl, rfl⟩) hs hs' (wp_weak (re_sb_at rfl (re_sb_nil _)) K)
theorem B320_13 {SC : List Value} {d s : Nat} {h : re_H} {Q : Nat → Value → re_H → Prop} {a0 : Nat} {as0 : Nat} {as1 : Nat}
    {w : List Value} (e : re_hg h as1 = some (5, w)) (hk : 3 < w.length) (K : wp SC 320 d s 16 [(0, .ref a0)] [] (re_hw h as1 (5, w.set 3 (.ref as0))) Q) : wp SC 320 d s 13 [(0, .ref a0)] [.ref as0, .ref as1] h Q := by
  exact wp_pf ⟨rfl, rfl⟩ rfl (Or.inr ⟨rfl, rfl⟩) e hk (fit_a (Or.inr ⟨_, rfl⟩)) (wp_weak (re_sb_at rfl (re_sb_nil _)) K)
theorem B320_16 {SC : List Value} {d s : Nat} {h : re_H} {Q : Nat → Value → re_H → Prop} {a0 : Nat}
    {s' i : Nat} (hx : (i32 4) = i32 i) (hn : i * 8 ≤ 536870912) (hs : i + 2 * s' ≤ 11 + 2 * s) (hs' : s' ≤ s) (K : wp SC 320 d s' 20 [(0, .ref a0)] [.ref h.1, .ref a0] (re_hq h (101, List.replicate i (.long 0))) Q) : wp SC 320 d s 16 [(0, .ref a0)] [] h Q := by
  refine wp_run 2 (pc' := 18) (lv' := [(0, .ref a0)]) (st' := [.int (i32 4), .ref a0]) rfl ?_
  exact wp_na ⟨rfl, rfl⟩ hx hn (Or.inr (Or.inl ⟨rfl, rfl, rfl⟩)) hs hs' (wp_weak (re_sb_at rfl (re_sb_nil _)) K)
theorem B320_20 {SC : List Value} {d s : Nat} {h : re_H} {Q : Nat → Value → re_H → Prop} {a0 : Nat} {as0 : Nat} {as1 : Nat}
    {w : List Value} (e : re_hg h as1 = some (5, w)) (hk : 4 < w.length) (K : wp SC 320 d s 23 [(0, .ref a0)] [] (re_hw h as1 (5, w.set 4 (.ref as0))) Q) : wp SC 320 d s 20 [(0, .ref a0)] [.ref as0, .ref as1] h Q := by
  exact wp_pf ⟨rfl, rfl⟩ rfl (Or.inr ⟨rfl, rfl⟩) e hk (fit_a (Or.inr ⟨_, rfl⟩)) (wp_weak (re_sb_at rfl (re_sb_nil _)) K)
theorem B320_23 {SC : List Value} {d s : Nat} {h : re_H} {Q : Nat → Value → re_H → Prop} {a0 : Nat}
    {s' i : Nat} (hx : (i32 4) = i32 i) (hn : i * 8 ≤ 536870912) (hs : i + 2 * s' ≤ 11 + 2 * s) (hs' : s' ≤ s) (K : wp SC 320 d s' 28 [(0, .ref a0)] [.ref h.1, .ref a0] (re_hq h (106, List.replicate i .null)) Q) : wp SC 320 d s 23 [(0, .ref a0)] [] h Q := by
  refine wp_run 2 (pc' := 25) (lv' := [(0, .ref a0)]) (st' := [.int (i32 4), .ref a0]) rfl ?_
  exact wp_ana ⟨rfl, rfl⟩ rfl hx hn hs hs' (wp_weak (re_sb_at rfl (re_sb_nil _)) K)
theorem B320_28 {SC : List Value} {d s : Nat} {h : re_H} {Q : Nat → Value → re_H → Prop} {a0 : Nat} {as0 : Nat} {as1 : Nat}
    {w : List Value} (e : re_hg h as1 = some (5, w)) (hk : 5 < w.length) (K : wp SC 320 d s 31 [(0, .ref a0)] [] (re_hw h as1 (5, w.set 5 (.ref as0))) Q) : wp SC 320 d s 28 [(0, .ref a0)] [.ref as0, .ref as1] h Q := by
  exact wp_pf ⟨rfl, rfl⟩ rfl (Or.inr ⟨rfl, rfl⟩) e hk (fit_a (Or.inr ⟨_, rfl⟩)) (wp_weak (re_sb_at rfl (re_sb_nil _)) K)
theorem B320_31 {SC : List Value} {d s : Nat} {h : re_H} {Q : Nat → Value → re_H → Prop} {a0 : Nat}
    (K : wp SC 320 d s 35 [(0, .ref a0)] [.ref h.1, .ref a0] (re_hq h (2, [.int 0, .null, .null])) Q) : wp SC 320 d s 31 [(0, .ref a0)] [] h Q := by
  refine wp_run 1 (pc' := 32) (lv' := [(0, .ref a0)]) (st' := [.ref a0]) rfl ?_
  exact wp_new (vs := [.int 0, .null, .null]) ⟨rfl, rfl⟩ rfl (by decide) (by decide) (wp_weak (re_sb_at rfl (re_sb_nil _)) K)
theorem B320_35 {SC : List Value} {d s : Nat} {h : re_H} {Q : Nat → Value → re_H → Prop} {a0 : Nat} {as0 : Nat} {as1 : Nat}
    {c : Nat} {w : List Value} (eg : re_hg h as0 = some (c, w)) (ec : c = 2) (K : wp SC 128 d 0 0 [(0, .ref as0)] [] h (wp_ret SC 320 (d + 1) s 39 [(0, .ref a0)] [.ref as0, .ref as1] Q)) : wp SC 320 (d + 1) s 35 [(0, .ref a0)] [.ref as0, .ref as1] h Q := by
  refine wp_run 1 (pc' := 36) (lv' := [(0, .ref a0)]) (st' := [.ref as0, .ref as0, .ref as1]) rfl ?_
  have eA : lv_args 0 (.ref as0 :: [].reverse) = [(0, .ref as0)] := by simp [lv_args, vc_i, vc_l, vc_r, vc_n, vc_a]
  refine wp_callI (ar := []) (rest := [.ref as0, .ref as1]) (s1 := 0) (s2 := s) (d' := d) ⟨rfl, rfl⟩ rfl (Or.inr rfl)  (by simp [re_cat, vc_i, vc_l, vc_r, vc_n, vc_a]) (by rw [show re_cat (.ref as0 :: [].reverse) = 1 from by simp [re_cat, vc_i, vc_l, vc_r, vc_n, vc_a]]; decide) (by decide) rfl eg ec rfl (Nat.le_of_eq (Nat.zero_add s)) ?_
  rw [eA]
  exact wp_mono K (fun k v h' z => wp_ret_weak (re_sb_at rfl (re_sb_nil _)) z)
theorem B320_39 {SC : List Value} {d s : Nat} {h : re_H} {Q : Nat → Value → re_H → Prop} {a0 : Nat} {as0 : Nat} {as1 : Nat}
    {w : List Value} (e : re_hg h as1 = some (5, w)) (hk : 6 < w.length) (K : wp SC 320 d s 42 [(0, .ref a0)] [] (re_hw h as1 (5, w.set 6 (.ref as0))) Q) : wp SC 320 d s 39 [(0, .ref a0)] [.ref as0, .ref as1] h Q := by
  exact wp_pf ⟨rfl, rfl⟩ rfl (Or.inr ⟨rfl, rfl⟩) e hk (fit_o (Or.inr ⟨_, rfl⟩)) (wp_weak (re_sb_at rfl (re_sb_nil _)) K)
theorem B320_42 {SC : List Value} {d s : Nat} {h : re_H} {Q : Nat → Value → re_H → Prop} {a0 : Nat}
    {s' i : Nat} (hx : (i32 4) = i32 i) (hn : i * 8 ≤ 536870912) (hs : i + 2 * s' ≤ 11 + 2 * s) (hs' : s' ≤ s) (K : wp SC 320 d s' 46 [(0, .ref a0)] [.ref h.1, .ref a0] (re_hq h (101, List.replicate i (.long 0))) Q) : wp SC 320 d s 42 [(0, .ref a0)] [] h Q := by
  refine wp_run 2 (pc' := 44) (lv' := [(0, .ref a0)]) (st' := [.int (i32 4), .ref a0]) rfl ?_
  exact wp_na ⟨rfl, rfl⟩ hx hn (Or.inr (Or.inl ⟨rfl, rfl, rfl⟩)) hs hs' (wp_weak (re_sb_at rfl (re_sb_nil _)) K)
theorem B320_46 {SC : List Value} {d s : Nat} {h : re_H} {Q : Nat → Value → re_H → Prop} {a0 : Nat} {as0 : Nat} {as1 : Nat}
    {w : List Value} (e : re_hg h as1 = some (5, w)) (hk : 7 < w.length) (K : wp SC 320 d s 49 [(0, .ref a0)] [] (re_hw h as1 (5, w.set 7 (.ref as0))) Q) : wp SC 320 d s 46 [(0, .ref a0)] [.ref as0, .ref as1] h Q := by
  exact wp_pf ⟨rfl, rfl⟩ rfl (Or.inr ⟨rfl, rfl⟩) e hk (fit_a (Or.inr ⟨_, rfl⟩)) (wp_weak (re_sb_at rfl (re_sb_nil _)) K)
theorem B320_49 {SC : List Value} {d s : Nat} {h : re_H} {Q : Nat → Value → re_H → Prop} {a0 : Nat}
    {s' i : Nat} (hx : (i32 16) = i32 i) (hn : i * 8 ≤ 536870912) (hs : i + 2 * s' ≤ 11 + 2 * s) (hs' : s' ≤ s) (K : wp SC 320 d s' 54 [(0, .ref a0)] [.ref h.1, .ref a0] (re_hq h (100, List.replicate i (.int 0))) Q) : wp SC 320 d s 49 [(0, .ref a0)] [] h Q := by
  refine wp_run 1 (pc' := 50) (lv' := [(0, .ref a0)]) (st' := [.ref a0]) rfl ?_
  refine wp_bi (x := (i32 16)) ⟨rfl, rfl⟩ (by decide) ?_
  exact wp_na ⟨rfl, rfl⟩ hx hn (Or.inl ⟨rfl, rfl, rfl⟩) hs hs' (wp_weak (re_sb_at rfl (re_sb_nil _)) K)
theorem B320_54 {SC : List Value} {d s : Nat} {h : re_H} {Q : Nat → Value → re_H → Prop} {a0 : Nat} {as0 : Nat} {as1 : Nat}
    {w : List Value} (e : re_hg h as1 = some (5, w)) (hk : 9 < w.length) (K : wp SC 320 d s 57 [(0, .ref a0)] [] (re_hw h as1 (5, w.set 9 (.ref as0))) Q) : wp SC 320 d s 54 [(0, .ref a0)] [.ref as0, .ref as1] h Q := by
  exact wp_pf ⟨rfl, rfl⟩ rfl (Or.inr ⟨rfl, rfl⟩) e hk (fit_a (Or.inr ⟨_, rfl⟩)) (wp_weak (re_sb_at rfl (re_sb_nil _)) K)
theorem B320_57 {SC : List Value} {d s : Nat} {h : re_H} {Q : Nat → Value → re_H → Prop} {a0 : Nat}
    {s' i : Nat} (hx : (i32 16) = i32 i) (hn : i * 8 ≤ 536870912) (hs : i + 2 * s' ≤ 11 + 2 * s) (hs' : s' ≤ s) (K : wp SC 320 d s' 62 [] [.ref h.1, .ref a0] (re_hq h (101, List.replicate i (.long 0))) Q) : wp SC 320 d s 57 [(0, .ref a0)] [] h Q := by
  refine wp_run 1 (pc' := 58) (lv' := [(0, .ref a0)]) (st' := [.ref a0]) rfl ?_
  refine wp_bi (x := (i32 16)) ⟨rfl, rfl⟩ (by decide) ?_
  exact wp_na ⟨rfl, rfl⟩ hx hn (Or.inr (Or.inl ⟨rfl, rfl, rfl⟩)) hs hs' (wp_weak (re_sb_nil _) K)
theorem B320_62 {SC : List Value} {d s : Nat} {h : re_H} {Q : Nat → Value → re_H → Prop} {as0 : Nat} {as1 : Nat}
    {w : List Value} (e : re_hg h as1 = some (5, w)) (hk : 10 < w.length) (K : wp SC 320 d s 65 [] [] (re_hw h as1 (5, w.set 10 (.ref as0))) Q) : wp SC 320 d s 62 [] [.ref as0, .ref as1] h Q := by
  exact wp_pf ⟨rfl, rfl⟩ rfl (Or.inr ⟨rfl, rfl⟩) e hk (fit_a (Or.inr ⟨_, rfl⟩)) (wp_weak (re_sb_nil _) K)
theorem B320_65 {SC : List Value} {d s : Nat} {h : re_H} {Q : Nat → Value → re_H → Prop} 
    (K : Q 0 .null h) : wp SC 320 d s 65 [] [] h Q := by
  exact wp_retv ⟨rfl, rfl⟩ rfl K
theorem B321_0 {SC : List Value} {d s : Nat} {h : re_H} {Q : Nat → Value → re_H → Prop} {a0 : Nat} {a1 : Nat} {a2 : Nat}
    {ae1 : Nat} (e2 : nb_fd h a0 5 6 (.ref ae1)) {c : Nat} {w : List Value} (eg : re_hg h ae1 = some (c, w)) (ec : c = 2) (K : wp SC 131 d 0 0 [(0, .ref ae1), (1, .ref a1)] [] h (wp_ret SC 321 (d + 1) s 8 [(0, .ref a0), (2, .ref a2)] [] Q)) : wp SC 321 (d + 1) s 0 [(0, .ref a0), (1, .ref a1), (2, .ref a2)] [] h Q := by
  refine wp_run 1 (pc' := 1) (lv' := [(0, .ref a0), (1, .ref a1), (2, .ref a2)]) (st' := [.ref a0]) rfl ?_
  obtain ⟨w2, e2a, e2b⟩ := e2
  refine wp_gf ⟨rfl, rfl⟩ rfl e2a e2b ?_
  refine wp_run 1 (pc' := 5) (lv' := [(0, .ref a0), (1, .ref a1), (2, .ref a2)]) (st' := [.ref a1, .ref ae1]) rfl ?_
  have eA : lv_args 0 (.ref ae1 :: [.ref a1].reverse) = [(0, .ref ae1), (1, .ref a1)] := by simp [lv_args, vc_i, vc_l, vc_r, vc_n, vc_a]
  refine wp_callV (ar := [.ref a1]) (rest := []) (s1 := 0) (s2 := s) (d' := d) ⟨rfl, rfl⟩ rfl (Or.inl rfl)  (by simp [re_cat, vc_i, vc_l, vc_r, vc_n, vc_a]) (by rw [show re_cat (.ref ae1 :: [.ref a1].reverse) = 2 from by simp [re_cat, vc_i, vc_l, vc_r, vc_n, vc_a]]; decide) (by decide) rfl eg ec rfl (Nat.le_of_eq (Nat.zero_add s)) ?_
  rw [eA]
  exact wp_mono K (fun k v h' z => wp_ret_weak (re_sb_at rfl (re_sb_at rfl (re_sb_nil _))) z)
theorem B321_8 {SC : List Value} {d s : Nat} {h : re_H} {Q : Nat → Value → re_H → Prop} {a0 : Nat} {a2 : Nat} {xs0 : Int32}
    (K1 : xs0 = 0 → wp SC 321 d s 32 [] [] h Q) (K2 : ¬ xs0 = 0 → wp SC 321 d s 11 [(0, .ref a0), (2, .ref a2)] [] h Q) : wp SC 321 d s 8 [(0, .ref a0), (2, .ref a2)] [.int xs0] h Q := by
  exact wp_if ⟨rfl, rfl⟩ rfl (fun hc => wp_weak (re_sb_nil _) (K1 (ic1_eq hc))) (fun hc => wp_weak (re_sb_at rfl (re_sb_at rfl (re_sb_nil _))) (K2 (ic0_eq hc)))
theorem B321_11 {SC : List Value} {d s : Nat} {h : re_H} {Q : Nat → Value → re_H → Prop} {a0 : Nat} {a2 : Nat}
    {ae1 : Nat} (e2 : nb_fd h a0 5 6 (.ref ae1)) {c : Nat} {w : List Value} (eg : re_hg h ae1 = some (c, w)) (ec : c = 2) (K : wp SC 132 d 0 0 [(0, .ref ae1)] [] h (wp_ret SC 321 (d + 1) s 18 [(0, .ref a0), (2, .ref a2)] [] Q)) : wp SC 321 (d + 1) s 11 [(0, .ref a0), (2, .ref a2)] [] h Q := by
  refine wp_run 1 (pc' := 12) (lv' := [(0, .ref a0), (2, .ref a2)]) (st' := [.ref a0]) rfl ?_
  obtain ⟨w2, e2a, e2b⟩ := e2
  refine wp_gf ⟨rfl, rfl⟩ rfl e2a e2b ?_
  have eA : lv_args 0 (.ref ae1 :: [].reverse) = [(0, .ref ae1)] := by simp [lv_args, vc_i, vc_l, vc_r, vc_n, vc_a]
  refine wp_callV (ar := []) (rest := []) (s1 := 0) (s2 := s) (d' := d) ⟨rfl, rfl⟩ rfl (Or.inl rfl)  (by simp [re_cat, vc_i, vc_l, vc_r, vc_n, vc_a]) (by rw [show re_cat (.ref ae1 :: [].reverse) = 1 from by simp [re_cat, vc_i, vc_l, vc_r, vc_n, vc_a]]; decide) (by decide) rfl eg ec rfl (Nat.le_of_eq (Nat.zero_add s)) ?_
  rw [eA]
  exact wp_mono K (fun k v h' z => wp_ret_weak (re_sb_at rfl (re_sb_at rfl (re_sb_nil _))) z)
theorem B321_18 {SC : List Value} {d s : Nat} {h : re_H} {Q : Nat → Value → re_H → Prop} {a0 : Nat} {a2 : Nat} {xs0 : Int32}
    (K1 : xs0 = 0 → wp SC 321 d s 34 [(0, .ref a0), (2, .ref a2)] [] h Q) (K2 : ¬ xs0 = 0 → wp SC 321 d s 21 [(0, .ref a0), (2, .ref a2)] [] h Q) : wp SC 321 d s 18 [(0, .ref a0), (2, .ref a2)] [.int xs0] h Q := by
  exact wp_if ⟨rfl, rfl⟩ rfl (fun hc => wp_weak (re_sb_at rfl (re_sb_at rfl (re_sb_nil _))) (K1 (ic1_eq hc))) (fun hc => wp_weak (re_sb_at rfl (re_sb_at rfl (re_sb_nil _))) (K2 (ic0_eq hc)))
theorem B321_21 {SC : List Value} {d s : Nat} {h : re_H} {Q : Nat → Value → re_H → Prop} {a0 : Nat} {a2 : Nat}
    {xe1 : Int32} (e2 : nb_fd h a0 5 8 (.int xe1)) {xe3 : Int32} (e4 : nb_fd h a2 4 1 (.int xe3)) (K1 : xe1 = xe3 → wp SC 321 d s 34 [(0, .ref a0), (2, .ref a2)] [] h Q) (K2 : ¬ xe1 = xe3 → wp SC 321 d s 32 [] [] h Q) : wp SC 321 d s 21 [(0, .ref a0), (2, .ref a2)] [] h Q := by
  refine wp_run 1 (pc' := 22) (lv' := [(0, .ref a0), (2, .ref a2)]) (st' := [.ref a0]) rfl ?_
  obtain ⟨w2, e2a, e2b⟩ := e2
  refine wp_gf ⟨rfl, rfl⟩ rfl e2a e2b ?_
  refine wp_run 1 (pc' := 26) (lv' := [(0, .ref a0), (2, .ref a2)]) (st' := [.ref a2, .int xe1]) rfl ?_
  obtain ⟨w4, e4a, e4b⟩ := e4
  refine wp_gf ⟨rfl, rfl⟩ rfl e4a e4b ?_
  exact wp_cmp ⟨rfl, rfl⟩ rfl (fun hc => wp_weak (re_sb_at rfl (re_sb_at rfl (re_sb_nil _))) (K1 (ic1_eq hc))) (fun hc => wp_weak (re_sb_nil _) (K2 (ic0_eq hc)))
theorem B321_32 {SC : List Value} {d s : Nat} {h : re_H} {Q : Nat → Value → re_H → Prop} 
    (K : Q 1 (.int (i32 0)) h) : wp SC 321 d s 32 [] [] h Q := by
  refine wp_run 1 (pc' := 33) (lv' := []) (st' := [.int (i32 0)]) rfl ?_
  exact wp_retz ⟨rfl, rfl⟩ rfl (Or.inl rfl) K
theorem B321_34 {SC : List Value} {d s : Nat} {h : re_H} {Q : Nat → Value → re_H → Prop} {a0 : Nat} {a2 : Nat}
    {ae1 : Nat} (e2 : nb_fd h a0 5 6 (.ref ae1)) {c : Nat} {w : List Value} (eg : re_hg h ae1 = some (c, w)) (ec : c = 2) (K : wp SC 133 d 0 0 [(0, .ref ae1)] [] h (wp_ret SC 321 (d + 1) s 41 [(0, .ref a0), (2, .ref a2)] [] Q)) : wp SC 321 (d + 1) s 34 [(0, .ref a0), (2, .ref a2)] [] h Q := by
  refine wp_run 1 (pc' := 35) (lv' := [(0, .ref a0), (2, .ref a2)]) (st' := [.ref a0]) rfl ?_
  obtain ⟨w2, e2a, e2b⟩ := e2
  refine wp_gf ⟨rfl, rfl⟩ rfl e2a e2b ?_
  have eA : lv_args 0 (.ref ae1 :: [].reverse) = [(0, .ref ae1)] := by simp [lv_args, vc_i, vc_l, vc_r, vc_n, vc_a]
  refine wp_callV (ar := []) (rest := []) (s1 := 0) (s2 := s) (d' := d) ⟨rfl, rfl⟩ rfl (Or.inl rfl)  (by simp [re_cat, vc_i, vc_l, vc_r, vc_n, vc_a]) (by rw [show re_cat (.ref ae1 :: [].reverse) = 1 from by simp [re_cat, vc_i, vc_l, vc_r, vc_n, vc_a]]; decide) (by decide) rfl eg ec rfl (Nat.le_of_eq (Nat.zero_add s)) ?_
  rw [eA]
  exact wp_mono K (fun k v h' z => wp_ret_weak (re_sb_at rfl (re_sb_at rfl (re_sb_nil _))) z)
theorem B321_41 {SC : List Value} {d s : Nat} {h : re_H} {Q : Nat → Value → re_H → Prop} {a0 : Nat} {a2 : Nat} {xs0 : Int32}
    (K : wp SC 321 d s 45 [(0, .ref a0), (2, .ref a2), (3, .int xs0), (4, .int (i32 0))] [] h Q) : wp SC 321 d s 41 [(0, .ref a0), (2, .ref a2)] [.int xs0] h Q := by
  refine wp_run 3 (pc' := 45) (lv' := [(4, .int (i32 0)), (3, .int xs0), (0, .ref a0), (2, .ref a2)]) (st' := []) rfl ?_
  exact wp_weak (re_sb_at rfl (re_sb_at rfl (re_sb_at rfl (re_sb_at rfl (re_sb_nil _))))) K
theorem B321_45 {SC : List Value} {d s : Nat} {h : re_H} {Q : Nat → Value → re_H → Prop} {a0 : Nat} {a2 : Nat} {x3 : Int32} {x4 : Int32}
    (K1 : ¬ x4 < (i32 4) → wp SC 321 d s 87 [] [] h Q) (K2 : x4 < (i32 4) → wp SC 321 d s 51 [(0, .ref a0), (2, .ref a2), (3, .int x3), (4, .int x4)] [] h Q) : wp SC 321 d s 45 [(0, .ref a0), (2, .ref a2), (3, .int x3), (4, .int x4)] [] h Q := by
  refine wp_run 2 (pc' := 48) (lv' := [(0, .ref a0), (2, .ref a2), (3, .int x3), (4, .int x4)]) (st' := [.int (i32 4), .int x4]) rfl ?_
  exact wp_cmp ⟨rfl, rfl⟩ rfl (fun hc => wp_weak (re_sb_nil _) (K1 (ic1_ge hc))) (fun hc => wp_weak (re_sb_at rfl (re_sb_at rfl (re_sb_at rfl (re_sb_at rfl (re_sb_nil _))))) (K2 (ic0_ge hc)))
theorem B321_51 {SC : List Value} {d s : Nat} {h : re_H} {Q : Nat → Value → re_H → Prop} {a0 : Nat} {a2 : Nat} {x3 : Int32} {x4 : Int32}
    (K1 : ¬ ((x3 >>> (x4 &&& 31)) &&& (i32 1)) = (i32 1) → wp SC 321 d s 81 [(0, .ref a0), (2, .ref a2), (3, .int x3), (4, .int x4)] [] h Q) (K2 : ((x3 >>> (x4 &&& 31)) &&& (i32 1)) = (i32 1) → wp SC 321 d s 61 [(0, .ref a0), (2, .ref a2), (3, .int x3), (4, .int x4)] [] h Q) : wp SC 321 d s 51 [(0, .ref a0), (2, .ref a2), (3, .int x3), (4, .int x4)] [] h Q := by
  refine wp_run 6 (pc' := 58) (lv' := [(0, .ref a0), (2, .ref a2), (3, .int x3), (4, .int x4)]) (st' := [.int (i32 1), .int ((x3 >>> (x4 &&& 31)) &&& (i32 1))]) rfl ?_
  exact wp_cmp ⟨rfl, rfl⟩ rfl (fun hc => wp_weak (re_sb_at rfl (re_sb_at rfl (re_sb_at rfl (re_sb_at rfl (re_sb_nil _))))) (K1 (ic1_ne hc))) (fun hc => wp_weak (re_sb_at rfl (re_sb_at rfl (re_sb_at rfl (re_sb_at rfl (re_sb_nil _))))) (K2 (ic0_ne hc)))
theorem B321_61 {SC : List Value} {d s : Nat} {h : re_H} {Q : Nat → Value → re_H → Prop} {a0 : Nat} {a2 : Nat} {x3 : Int32} {x4 : Int32}
    {ae1 : Nat} (e2 : nb_fd h a0 5 7 (.ref ae1)) {le3 : Int64} (e4 : nb_ar h ae1 101 x4 (.long le3)) {ae5 : Nat} (e6 : nb_fd h a2 4 0 (.ref ae5)) {le7 : Int64} (e8 : nb_ar h ae5 101 x4 (.long le7)) (K1 : le3 = le7 → wp SC 321 d s 81 [(0, .ref a0), (2, .ref a2), (3, .int x3), (4, .int x4)] [] h Q) (K2 : ¬ le3 = le7 → wp SC 321 d s 79 [] [] h Q) : wp SC 321 d s 61 [(0, .ref a0), (2, .ref a2), (3, .int x3), (4, .int x4)] [] h Q := by
  refine wp_run 1 (pc' := 62) (lv' := [(0, .ref a0), (2, .ref a2), (3, .int x3), (4, .int x4)]) (st' := [.ref a0]) rfl ?_
  obtain ⟨w2, e2a, e2b⟩ := e2
  refine wp_gf ⟨rfl, rfl⟩ rfl e2a e2b ?_
  refine wp_run 1 (pc' := 67) (lv' := [(0, .ref a0), (2, .ref a2), (3, .int x3), (4, .int x4)]) (st' := [.int x4, .ref ae1]) rfl ?_
  obtain ⟨w4, i4, e4a, e4x, e4i, e4v⟩ := e4
  refine wp_lal ⟨rfl, rfl⟩ e4a rfl e4x e4i e4v ?_
  refine wp_run 1 (pc' := 69) (lv' := [(0, .ref a0), (2, .ref a2), (3, .int x3), (4, .int x4)]) (st' := [.ref a2, .long le3]) rfl ?_
  obtain ⟨w6, e6a, e6b⟩ := e6
  refine wp_gf ⟨rfl, rfl⟩ rfl e6a e6b ?_
  refine wp_run 1 (pc' := 74) (lv' := [(0, .ref a0), (2, .ref a2), (3, .int x3), (4, .int x4)]) (st' := [.int x4, .ref ae5, .long le3]) rfl ?_
  obtain ⟨w8, i8, e8a, e8x, e8i, e8v⟩ := e8
  refine wp_lal ⟨rfl, rfl⟩ e8a rfl e8x e8i e8v ?_
  refine wp_run 1 (pc' := 76) (lv' := [(0, .ref a0), (2, .ref a2), (3, .int x3), (4, .int x4)]) (st' := [.int (lg_cmp le3 le7)]) rfl ?_
  exact wp_if ⟨rfl, rfl⟩ rfl (fun hc => wp_weak (re_sb_at rfl (re_sb_at rfl (re_sb_at rfl (re_sb_at rfl (re_sb_nil _))))) (K1 (lc1_eq hc))) (fun hc => wp_weak (re_sb_nil _) (K2 (lc0_eq hc)))
theorem B321_79 {SC : List Value} {d s : Nat} {h : re_H} {Q : Nat → Value → re_H → Prop} 
    (K : Q 1 (.int (i32 0)) h) : wp SC 321 d s 79 [] [] h Q := by
  refine wp_run 1 (pc' := 80) (lv' := []) (st' := [.int (i32 0)]) rfl ?_
  exact wp_retz ⟨rfl, rfl⟩ rfl (Or.inl rfl) K
theorem B321_81 {SC : List Value} {d s : Nat} {h : re_H} {Q : Nat → Value → re_H → Prop} {a0 : Nat} {a2 : Nat} {x3 : Int32} {x4 : Int32}
    (K : wp SC 321 d s 45 [(0, .ref a0), (2, .ref a2), (3, .int x3), (4, .int (x4 + (i32 1)))] [] h Q) : wp SC 321 d s 81 [(0, .ref a0), (2, .ref a2), (3, .int x3), (4, .int x4)] [] h Q := by
  refine wp_run 2 (pc' := 45) (lv' := [(4, .int (x4 + (i32 1))), (0, .ref a0), (2, .ref a2), (3, .int x3)]) (st' := []) rfl ?_
  exact wp_weak (re_sb_at rfl (re_sb_at rfl (re_sb_at rfl (re_sb_at rfl (re_sb_nil _))))) K
theorem B321_87 {SC : List Value} {d s : Nat} {h : re_H} {Q : Nat → Value → re_H → Prop} 
    (K : Q 1 (.int (i32 1)) h) : wp SC 321 d s 87 [] [] h Q := by
  refine wp_run 1 (pc' := 88) (lv' := []) (st' := [.int (i32 1)]) rfl ?_
  exact wp_retz ⟨rfl, rfl⟩ rfl (Or.inr rfl) K
theorem B322_0 {SC : List Value} {d s : Nat} {h : re_H} {Q : Nat → Value → re_H → Prop} {a0 : Nat} {x1 : Int32}
    {c : Nat} {w : List Value} (eg : re_hg h a0 = some (c, w)) (ec : c = 5) (K : wp SC 323 d 0 0 [(0, .ref a0), (1, .int x1)] [] h (wp_ret SC 322 (d + 1) s 5 [(0, .ref a0)] [] Q)) : wp SC 322 (d + 1) s 0 [(0, .ref a0), (1, .int x1)] [] h Q := by
  refine wp_run 2 (pc' := 2) (lv' := [(0, .ref a0), (1, .int x1)]) (st' := [.int x1, .ref a0]) rfl ?_
  have eA : lv_args 0 (.ref a0 :: [.int x1].reverse) = [(0, .ref a0), (1, .int x1)] := by simp [lv_args, vc_i, vc_l, vc_r, vc_n, vc_a]
  refine wp_callV (ar := [.int x1]) (rest := []) (s1 := 0) (s2 := s) (d' := d) ⟨rfl, rfl⟩ rfl (Or.inl rfl)  (by simp [re_cat, vc_i, vc_l, vc_r, vc_n, vc_a]) (by rw [show re_cat (.ref a0 :: [.int x1].reverse) = 2 from by simp [re_cat, vc_i, vc_l, vc_r, vc_n, vc_a]]; decide) (by decide) rfl eg ec rfl (Nat.le_of_eq (Nat.zero_add s)) ?_
  rw [eA]
  exact wp_mono K (fun k v h' z => wp_ret_weak (re_sb_at rfl (re_sb_nil _)) z)
theorem B322_5 {SC : List Value} {d s : Nat} {h : re_H} {Q : Nat → Value → re_H → Prop} {a0 : Nat} {xs0 : Int32}
    (K1 : ¬ xs0 < 0 → wp SC 322 d s 12 [(0, .ref a0), (2, .int xs0)] [] h Q) (K2 : xs0 < 0 → wp SC 322 d s 10 [] [] h Q) : wp SC 322 d s 5 [(0, .ref a0)] [.int xs0] h Q := by
  refine wp_run 2 (pc' := 7) (lv' := [(2, .int xs0), (0, .ref a0)]) (st' := [.int xs0]) rfl ?_
  exact wp_if ⟨rfl, rfl⟩ rfl (fun hc => wp_weak (re_sb_at rfl (re_sb_at rfl (re_sb_nil _))) (K1 (ic1_ge hc))) (fun hc => wp_weak (re_sb_nil _) (K2 (ic0_ge hc)))
theorem B322_10 {SC : List Value} {d s : Nat} {h : re_H} {Q : Nat → Value → re_H → Prop} 
    (K : Q 1 (.int (i32 0)) h) : wp SC 322 d s 10 [] [] h Q := by
  refine wp_run 1 (pc' := 11) (lv' := []) (st' := [.int (i32 0)]) rfl ?_
  exact wp_reti ⟨rfl, rfl⟩ rfl K
theorem B322_12 {SC : List Value} {d s : Nat} {h : re_H} {Q : Nat → Value → re_H → Prop} {a0 : Nat} {x2 : Int32}
    {ae1 : Nat} (e2 : nb_fd h a0 5 5 (.ref ae1)) {ve3 : Value} (re3 : re_R ve3) (e4 : nb_ar h ae1 106 x2 (ve3)) (K1 : ve3 = .null → wp SC 322 d s 21 [] [] h Q) (K2 : ∀ b5, ve3 = .ref b5 → wp SC 322 d s 25 [] [] h Q) : wp SC 322 d s 12 [(0, .ref a0), (2, .int x2)] [] h Q := by
  refine wp_run 1 (pc' := 13) (lv' := [(0, .ref a0), (2, .int x2)]) (st' := [.ref a0]) rfl ?_
  obtain ⟨w2, e2a, e2b⟩ := e2
  refine wp_gf ⟨rfl, rfl⟩ rfl e2a e2b ?_
  refine wp_run 1 (pc' := 17) (lv' := [(0, .ref a0), (2, .int x2)]) (st' := [.int x2, .ref ae1]) rfl ?_
  obtain ⟨w4, i4, e4a, e4x, e4i, e4v⟩ := e4
  refine wp_aal ⟨rfl, rfl⟩ e4a ⟨by decide, by decide⟩ e4x e4i e4v ?_
  exact wp_ifnn ⟨rfl, rfl⟩ rfl re3 (fun bb hc => by subst hc; exact wp_weak (re_sb_nil _) (K2 bb rfl)) (fun hc => by subst hc; exact wp_weak (re_sb_nil _) (K1 rfl))
theorem B322_21 {SC : List Value} {d s : Nat} {h : re_H} {Q : Nat → Value → re_H → Prop} 
    (K : wp SC 322 d s 26 [] [.int (i32 1)] h Q) : wp SC 322 d s 21 [] [] h Q := by
  refine wp_run 2 (pc' := 26) (lv' := []) (st' := [.int (i32 1)]) rfl ?_
  exact wp_weak (re_sb_nil _) K
theorem B322_25 {SC : List Value} {d s : Nat} {h : re_H} {Q : Nat → Value → re_H → Prop} 
    (K : wp SC 322 d s 26 [] [.int (i32 2)] h Q) : wp SC 322 d s 25 [] [] h Q := by
  refine wp_run 1 (pc' := 26) (lv' := []) (st' := [.int (i32 2)]) rfl ?_
  exact wp_weak (re_sb_nil _) K
theorem B322_26 {SC : List Value} {d s : Nat} {h : re_H} {Q : Nat → Value → re_H → Prop} {xs0 : Int32}
    (K : Q 1 (.int xs0) h) : wp SC 322 d s 26 [] [.int xs0] h Q := by
  exact wp_reti ⟨rfl, rfl⟩ rfl K
theorem B323_0 {SC : List Value} {d s : Nat} {h : re_H} {Q : Nat → Value → re_H → Prop} {a0 : Nat} {x1 : Int32}
    (K : wp SC 323 d s 2 [(0, .ref a0), (1, .int x1), (2, .int (i32 0))] [] h Q) : wp SC 323 d s 0 [(0, .ref a0), (1, .int x1)] [] h Q := by
  refine wp_run 2 (pc' := 2) (lv' := [(2, .int (i32 0)), (0, .ref a0), (1, .int x1)]) (st' := []) rfl ?_
  exact wp_weak (re_sb_at rfl (re_sb_at rfl (re_sb_at rfl (re_sb_nil _)))) K
theorem B323_2 {SC : List Value} {d s : Nat} {h : re_H} {Q : Nat → Value → re_H → Prop} {a0 : Nat} {x1 : Int32} {x2 : Int32}
    {xe1 : Int32} (e2 : nb_fd h a0 5 2 (.int xe1)) (K1 : ¬ x2 < xe1 → wp SC 323 d s 33 [] [] h Q) (K2 : x2 < xe1 → wp SC 323 d s 10 [(0, .ref a0), (1, .int x1), (2, .int x2)] [] h Q) : wp SC 323 d s 2 [(0, .ref a0), (1, .int x1), (2, .int x2)] [] h Q := by
  refine wp_run 2 (pc' := 4) (lv' := [(0, .ref a0), (1, .int x1), (2, .int x2)]) (st' := [.ref a0, .int x2]) rfl ?_
  obtain ⟨w2, e2a, e2b⟩ := e2
  refine wp_gf ⟨rfl, rfl⟩ rfl e2a e2b ?_
  exact wp_cmp ⟨rfl, rfl⟩ rfl (fun hc => wp_weak (re_sb_nil _) (K1 (ic1_ge hc))) (fun hc => wp_weak (re_sb_at rfl (re_sb_at rfl (re_sb_at rfl (re_sb_nil _)))) (K2 (ic0_ge hc)))
theorem B323_10 {SC : List Value} {d s : Nat} {h : re_H} {Q : Nat → Value → re_H → Prop} {a0 : Nat} {x1 : Int32} {x2 : Int32}
    (K1 : ¬ x2 < (i32 4) → wp SC 323 d s 33 [] [] h Q) (K2 : x2 < (i32 4) → wp SC 323 d s 15 [(0, .ref a0), (1, .int x1), (2, .int x2)] [] h Q) : wp SC 323 d s 10 [(0, .ref a0), (1, .int x1), (2, .int x2)] [] h Q := by
  refine wp_run 2 (pc' := 12) (lv' := [(0, .ref a0), (1, .int x1), (2, .int x2)]) (st' := [.int (i32 4), .int x2]) rfl ?_
  exact wp_cmp ⟨rfl, rfl⟩ rfl (fun hc => wp_weak (re_sb_nil _) (K1 (ic1_ge hc))) (fun hc => wp_weak (re_sb_at rfl (re_sb_at rfl (re_sb_at rfl (re_sb_nil _)))) (K2 (ic0_ge hc)))
theorem B323_15 {SC : List Value} {d s : Nat} {h : re_H} {Q : Nat → Value → re_H → Prop} {a0 : Nat} {x1 : Int32} {x2 : Int32}
    {ae1 : Nat} (e2 : nb_fd h a0 5 3 (.ref ae1)) {xe3 : Int32} (e4 : nb_ar h ae1 100 x2 (.int xe3)) (K1 : ¬ xe3 = x1 → wp SC 323 d s 27 [(0, .ref a0), (1, .int x1), (2, .int x2)] [] h Q) (K2 : xe3 = x1 → wp SC 323 d s 25 [(2, .int x2)] [] h Q) : wp SC 323 d s 15 [(0, .ref a0), (1, .int x1), (2, .int x2)] [] h Q := by
  refine wp_run 1 (pc' := 16) (lv' := [(0, .ref a0), (1, .int x1), (2, .int x2)]) (st' := [.ref a0]) rfl ?_
  obtain ⟨w2, e2a, e2b⟩ := e2
  refine wp_gf ⟨rfl, rfl⟩ rfl e2a e2b ?_
  refine wp_run 1 (pc' := 20) (lv' := [(0, .ref a0), (1, .int x1), (2, .int x2)]) (st' := [.int x2, .ref ae1]) rfl ?_
  obtain ⟨w4, i4, e4a, e4x, e4i, e4v⟩ := e4
  refine wp_ial ⟨rfl, rfl⟩ e4a rfl e4x e4i e4v ?_
  refine wp_run 1 (pc' := 22) (lv' := [(0, .ref a0), (1, .int x1), (2, .int x2)]) (st' := [.int x1, .int xe3]) rfl ?_
  exact wp_cmp ⟨rfl, rfl⟩ rfl (fun hc => wp_weak (re_sb_at rfl (re_sb_at rfl (re_sb_at rfl (re_sb_nil _)))) (K1 (ic1_ne hc))) (fun hc => wp_weak (re_sb_at rfl (re_sb_nil _)) (K2 (ic0_ne hc)))
theorem B323_25 {SC : List Value} {d s : Nat} {h : re_H} {Q : Nat → Value → re_H → Prop} {x2 : Int32}
    (K : Q 1 (.int x2) h) : wp SC 323 d s 25 [(2, .int x2)] [] h Q := by
  refine wp_run 1 (pc' := 26) (lv' := [(2, .int x2)]) (st' := [.int x2]) rfl ?_
  exact wp_reti ⟨rfl, rfl⟩ rfl K
theorem B323_27 {SC : List Value} {d s : Nat} {h : re_H} {Q : Nat → Value → re_H → Prop} {a0 : Nat} {x1 : Int32} {x2 : Int32}
    (K : wp SC 323 d s 2 [(0, .ref a0), (1, .int x1), (2, .int (x2 + (i32 1)))] [] h Q) : wp SC 323 d s 27 [(0, .ref a0), (1, .int x1), (2, .int x2)] [] h Q := by
  refine wp_run 2 (pc' := 2) (lv' := [(2, .int (x2 + (i32 1))), (0, .ref a0), (1, .int x1)]) (st' := []) rfl ?_
  exact wp_weak (re_sb_at rfl (re_sb_at rfl (re_sb_at rfl (re_sb_nil _)))) K
theorem B323_33 {SC : List Value} {d s : Nat} {h : re_H} {Q : Nat → Value → re_H → Prop} 
    (K : Q 1 (.int (-1)) h) : wp SC 323 d s 33 [] [] h Q := by
  refine wp_run 1 (pc' := 34) (lv' := []) (st' := [.int (-1)]) rfl ?_
  exact wp_reti ⟨rfl, rfl⟩ rfl K
theorem B324_0 {SC : List Value} {d s : Nat} {h : re_H} {Q : Nat → Value → re_H → Prop} {a0 : Nat} {x1 : Int32}
    {c : Nat} {w : List Value} (eg : re_hg h a0 = some (c, w)) (ec : c = 5) (K : wp SC 323 d 0 0 [(0, .ref a0), (1, .int x1)] [] h (wp_ret SC 324 (d + 1) s 5 [(0, .ref a0)] [] Q)) : wp SC 324 (d + 1) s 0 [(0, .ref a0), (1, .int x1)] [] h Q := by
  refine wp_run 2 (pc' := 2) (lv' := [(0, .ref a0), (1, .int x1)]) (st' := [.int x1, .ref a0]) rfl ?_
  have eA : lv_args 0 (.ref a0 :: [.int x1].reverse) = [(0, .ref a0), (1, .int x1)] := by simp [lv_args, vc_i, vc_l, vc_r, vc_n, vc_a]
  refine wp_callV (ar := [.int x1]) (rest := []) (s1 := 0) (s2 := s) (d' := d) ⟨rfl, rfl⟩ rfl (Or.inl rfl)  (by simp [re_cat, vc_i, vc_l, vc_r, vc_n, vc_a]) (by rw [show re_cat (.ref a0 :: [.int x1].reverse) = 2 from by simp [re_cat, vc_i, vc_l, vc_r, vc_n, vc_a]]; decide) (by decide) rfl eg ec rfl (Nat.le_of_eq (Nat.zero_add s)) ?_
  rw [eA]
  exact wp_mono K (fun k v h' z => wp_ret_weak (re_sb_at rfl (re_sb_nil _)) z)
theorem B324_5 {SC : List Value} {d s : Nat} {h : re_H} {Q : Nat → Value → re_H → Prop} {a0 : Nat} {xs0 : Int32}
    (K1 : ¬ xs0 < 0 → wp SC 324 d s 12 [(0, .ref a0), (2, .int xs0)] [] h Q) (K2 : xs0 < 0 → wp SC 324 d s 10 [] [] h Q) : wp SC 324 d s 5 [(0, .ref a0)] [.int xs0] h Q := by
  refine wp_run 2 (pc' := 7) (lv' := [(2, .int xs0), (0, .ref a0)]) (st' := [.int xs0]) rfl ?_
  exact wp_if ⟨rfl, rfl⟩ rfl (fun hc => wp_weak (re_sb_at rfl (re_sb_at rfl (re_sb_nil _))) (K1 (ic1_ge hc))) (fun hc => wp_weak (re_sb_nil _) (K2 (ic0_ge hc)))
theorem B324_10 {SC : List Value} {d s : Nat} {h : re_H} {Q : Nat → Value → re_H → Prop} 
    (K : Q 2 (.long (0)) h) : wp SC 324 d s 10 [] [] h Q := by
  refine wp_run 1 (pc' := 11) (lv' := []) (st' := [.long (0)]) rfl ?_
  exact wp_retl ⟨rfl, rfl⟩ rfl K
theorem B324_12 {SC : List Value} {d s : Nat} {h : re_H} {Q : Nat → Value → re_H → Prop} {a0 : Nat} {x2 : Int32}
    {ae1 : Nat} (e2 : nb_fd h a0 5 5 (.ref ae1)) {ve3 : Value} (re3 : re_R ve3) (e4 : nb_ar h ae1 106 x2 (ve3)) (K1 : ve3 = .null → wp SC 324 d s 21 [(0, .ref a0), (2, .int x2)] [] h Q) (K2 : ∀ b5, ve3 = .ref b5 → wp SC 324 d s 30 [(0, .ref a0), (2, .int x2)] [] h Q) : wp SC 324 d s 12 [(0, .ref a0), (2, .int x2)] [] h Q := by
  refine wp_run 1 (pc' := 13) (lv' := [(0, .ref a0), (2, .int x2)]) (st' := [.ref a0]) rfl ?_
  obtain ⟨w2, e2a, e2b⟩ := e2
  refine wp_gf ⟨rfl, rfl⟩ rfl e2a e2b ?_
  refine wp_run 1 (pc' := 17) (lv' := [(0, .ref a0), (2, .int x2)]) (st' := [.int x2, .ref ae1]) rfl ?_
  obtain ⟨w4, i4, e4a, e4x, e4i, e4v⟩ := e4
  refine wp_aal ⟨rfl, rfl⟩ e4a ⟨by decide, by decide⟩ e4x e4i e4v ?_
  exact wp_ifnn ⟨rfl, rfl⟩ rfl re3 (fun bb hc => by subst hc; exact wp_weak (re_sb_at rfl (re_sb_at rfl (re_sb_nil _))) (K2 bb rfl)) (fun hc => by subst hc; exact wp_weak (re_sb_at rfl (re_sb_at rfl (re_sb_nil _))) (K1 rfl))
theorem B324_21 {SC : List Value} {d s : Nat} {h : re_H} {Q : Nat → Value → re_H → Prop} {a0 : Nat} {x2 : Int32}
    {ae1 : Nat} (e2 : nb_fd h a0 5 4 (.ref ae1)) {le3 : Int64} (e4 : nb_ar h ae1 101 x2 (.long le3)) (K : wp SC 324 d s 39 [] [.long le3] h Q) : wp SC 324 d s 21 [(0, .ref a0), (2, .int x2)] [] h Q := by
  refine wp_run 1 (pc' := 22) (lv' := [(0, .ref a0), (2, .int x2)]) (st' := [.ref a0]) rfl ?_
  obtain ⟨w2, e2a, e2b⟩ := e2
  refine wp_gf ⟨rfl, rfl⟩ rfl e2a e2b ?_
  refine wp_run 1 (pc' := 26) (lv' := [(0, .ref a0), (2, .int x2)]) (st' := [.int x2, .ref ae1]) rfl ?_
  obtain ⟨w4, i4, e4a, e4x, e4i, e4v⟩ := e4
  refine wp_lal ⟨rfl, rfl⟩ e4a rfl e4x e4i e4v ?_
  refine wp_run 1 (pc' := 39) (lv' := [(0, .ref a0), (2, .int x2)]) (st' := [.long le3]) rfl ?_
  exact wp_weak (re_sb_nil _) K
theorem B324_30 {SC : List Value} {d s : Nat} {h : re_H} {Q : Nat → Value → re_H → Prop} {a0 : Nat} {x2 : Int32}
    {ae1 : Nat} (e2 : nb_fd h a0 5 5 (.ref ae1)) {ve3 : Value} (re3 : re_R ve3) (e4 : nb_ar h ae1 106 x2 (ve3)) {b5 : Nat} (n5 : ve3 = .ref b5) {le6 : Int64} (e7 : nb_fd h b5 10 2 (.long le6)) (K : wp SC 324 d s 39 [] [.long le6] h Q) : wp SC 324 d s 30 [(0, .ref a0), (2, .int x2)] [] h Q := by
  refine wp_run 1 (pc' := 31) (lv' := [(0, .ref a0), (2, .int x2)]) (st' := [.ref a0]) rfl ?_
  obtain ⟨w2, e2a, e2b⟩ := e2
  refine wp_gf ⟨rfl, rfl⟩ rfl e2a e2b ?_
  refine wp_run 1 (pc' := 35) (lv' := [(0, .ref a0), (2, .int x2)]) (st' := [.int x2, .ref ae1]) rfl ?_
  obtain ⟨w4, i4, e4a, e4x, e4i, e4v⟩ := e4
  refine wp_aal ⟨rfl, rfl⟩ e4a ⟨by decide, by decide⟩ e4x e4i e4v ?_
  subst n5
  obtain ⟨w7, e7a, e7b⟩ := e7
  refine wp_gf ⟨rfl, rfl⟩ rfl e7a e7b ?_
  exact wp_weak (re_sb_nil _) K
theorem B324_39 {SC : List Value} {d s : Nat} {h : re_H} {Q : Nat → Value → re_H → Prop} {ls0 : Int64}
    (K : Q 2 (.long ls0) h) : wp SC 324 d s 39 [] [.long ls0] h Q := by
  exact wp_retl ⟨rfl, rfl⟩ rfl K
theorem B325_0 {SC : List Value} {d s : Nat} {h : re_H} {Q : Nat → Value → re_H → Prop} {a0 : Nat} {x1 : Int32} {x2 : Int32} {l3 : Int64}
    {ae1 : Nat} (e2 : nb_fd h a0 5 9 (.ref ae1)) {xe3 : Int32} (e4 : nb_ar h ae1 100 x1 (.int xe3)) (K1 : ¬ xe3 = x2 → wp SC 325 d s 29 [] [] h Q) (K2 : xe3 = x2 → wp SC 325 d s 10 [(0, .ref a0), (1, .int x1), (2, .int x2), (3, .long l3)] [] h Q) : wp SC 325 d s 0 [(0, .ref a0), (1, .int x1), (2, .int x2), (3, .long l3)] [] h Q := by
  refine wp_run 1 (pc' := 1) (lv' := [(0, .ref a0), (1, .int x1), (2, .int x2), (3, .long l3)]) (st' := [.ref a0]) rfl ?_
  obtain ⟨w2, e2a, e2b⟩ := e2
  refine wp_gf ⟨rfl, rfl⟩ rfl e2a e2b ?_
  refine wp_run 1 (pc' := 5) (lv' := [(0, .ref a0), (1, .int x1), (2, .int x2), (3, .long l3)]) (st' := [.int x1, .ref ae1]) rfl ?_
  obtain ⟨w4, i4, e4a, e4x, e4i, e4v⟩ := e4
  refine wp_ial ⟨rfl, rfl⟩ e4a rfl e4x e4i e4v ?_
  refine wp_run 1 (pc' := 7) (lv' := [(0, .ref a0), (1, .int x1), (2, .int x2), (3, .long l3)]) (st' := [.int x2, .int xe3]) rfl ?_
  exact wp_cmp ⟨rfl, rfl⟩ rfl (fun hc => wp_weak (re_sb_nil _) (K1 (ic1_ne hc))) (fun hc => wp_weak (re_sb_at rfl (re_sb_at rfl (re_sb_at rfl (re_sb_at rfl (re_sb_nil _))))) (K2 (ic0_ne hc)))
theorem B325_10 {SC : List Value} {d s : Nat} {h : re_H} {Q : Nat → Value → re_H → Prop} {a0 : Nat} {x1 : Int32} {x2 : Int32} {l3 : Int64}
    (K1 : x2 = 0 → wp SC 325 d s 25 [] [] h Q) (K2 : ¬ x2 = 0 → wp SC 325 d s 14 [(0, .ref a0), (1, .int x1), (3, .long l3)] [] h Q) : wp SC 325 d s 10 [(0, .ref a0), (1, .int x1), (2, .int x2), (3, .long l3)] [] h Q := by
  refine wp_run 1 (pc' := 11) (lv' := [(0, .ref a0), (1, .int x1), (2, .int x2), (3, .long l3)]) (st' := [.int x2]) rfl ?_
  exact wp_if ⟨rfl, rfl⟩ rfl (fun hc => wp_weak (re_sb_nil _) (K1 (ic1_eq hc))) (fun hc => wp_weak (re_sb_at rfl (re_sb_at rfl (re_sb_at rfl (re_sb_nil _)))) (K2 (ic0_eq hc)))
theorem B325_14 {SC : List Value} {d s : Nat} {h : re_H} {Q : Nat → Value → re_H → Prop} {a0 : Nat} {x1 : Int32} {l3 : Int64}
    {ae1 : Nat} (e2 : nb_fd h a0 5 10 (.ref ae1)) {le3 : Int64} (e4 : nb_ar h ae1 101 x1 (.long le3)) (K1 : ¬ le3 = l3 → wp SC 325 d s 29 [] [] h Q) (K2 : le3 = l3 → wp SC 325 d s 25 [] [] h Q) : wp SC 325 d s 14 [(0, .ref a0), (1, .int x1), (3, .long l3)] [] h Q := by
  refine wp_run 1 (pc' := 15) (lv' := [(0, .ref a0), (1, .int x1), (3, .long l3)]) (st' := [.ref a0]) rfl ?_
  obtain ⟨w2, e2a, e2b⟩ := e2
  refine wp_gf ⟨rfl, rfl⟩ rfl e2a e2b ?_
  refine wp_run 1 (pc' := 19) (lv' := [(0, .ref a0), (1, .int x1), (3, .long l3)]) (st' := [.int x1, .ref ae1]) rfl ?_
  obtain ⟨w4, i4, e4a, e4x, e4i, e4v⟩ := e4
  refine wp_lal ⟨rfl, rfl⟩ e4a rfl e4x e4i e4v ?_
  refine wp_run 2 (pc' := 22) (lv' := [(0, .ref a0), (1, .int x1), (3, .long l3)]) (st' := [.int (lg_cmp le3 l3)]) rfl ?_
  exact wp_if ⟨rfl, rfl⟩ rfl (fun hc => wp_weak (re_sb_nil _) (K1 (lc1_ne hc))) (fun hc => wp_weak (re_sb_nil _) (K2 (lc0_ne hc)))
theorem B325_25 {SC : List Value} {d s : Nat} {h : re_H} {Q : Nat → Value → re_H → Prop} 
    (K : wp SC 325 d s 30 [] [.int (i32 1)] h Q) : wp SC 325 d s 25 [] [] h Q := by
  refine wp_run 2 (pc' := 30) (lv' := []) (st' := [.int (i32 1)]) rfl ?_
  exact wp_weak (re_sb_nil _) K
theorem B325_29 {SC : List Value} {d s : Nat} {h : re_H} {Q : Nat → Value → re_H → Prop} 
    (K : wp SC 325 d s 30 [] [.int (i32 0)] h Q) : wp SC 325 d s 29 [] [] h Q := by
  refine wp_run 1 (pc' := 30) (lv' := []) (st' := [.int (i32 0)]) rfl ?_
  exact wp_weak (re_sb_nil _) K
theorem B325_30 {SC : List Value} {d s : Nat} {h : re_H} {Q : Nat → Value → re_H → Prop} {xs0 : Int32}
    (hz : xs0 = 0 ∨ xs0 = 1) (K : Q 1 (.int xs0) h) : wp SC 325 d s 30 [] [.int xs0] h Q := by
  exact wp_retz ⟨rfl, rfl⟩ rfl hz K
theorem B326_0 {SC : List Value} {d s : Nat} {h : re_H} {Q : Nat → Value → re_H → Prop} {a0 : Nat} {x1 : Int32}
    {w : List Value} (e : re_hg h a0 = some (5, w)) (hk : 0 < w.length) (K : wp SC 326 d s 5 [(0, .ref a0)] [] (re_hw h a0 (5, w.set 0 (.int x1))) Q) : wp SC 326 d s 0 [(0, .ref a0), (1, .int x1)] [] h Q := by
  refine wp_run 2 (pc' := 2) (lv' := [(0, .ref a0), (1, .int x1)]) (st' := [.int x1, .ref a0]) rfl ?_
  exact wp_pf ⟨rfl, rfl⟩ rfl (Or.inl rfl) e hk (fit_i _) (wp_weak (re_sb_at rfl (re_sb_nil _)) K)
theorem B326_5 {SC : List Value} {d s : Nat} {h : re_H} {Q : Nat → Value → re_H → Prop} {a0 : Nat}
    {c : Nat} {w : List Value} (eg : re_hg h a0 = some (c, w)) (ec : c = 5) (K : wp SC 327 d 0 0 [(0, .ref a0)] [] h (wp_ret SC 326 (d + 1) s 9 [] [] Q)) : wp SC 326 (d + 1) s 5 [(0, .ref a0)] [] h Q := by
  refine wp_run 1 (pc' := 6) (lv' := [(0, .ref a0)]) (st' := [.ref a0]) rfl ?_
  have eA : lv_args 0 (.ref a0 :: [].reverse) = [(0, .ref a0)] := by simp [lv_args, vc_i, vc_l, vc_r, vc_n, vc_a]
  refine wp_callV (ar := []) (rest := []) (s1 := 0) (s2 := s) (d' := d) ⟨rfl, rfl⟩ rfl (Or.inl rfl)  (by simp [re_cat, vc_i, vc_l, vc_r, vc_n, vc_a]) (by rw [show re_cat (.ref a0 :: [].reverse) = 1 from by simp [re_cat, vc_i, vc_l, vc_r, vc_n, vc_a]]; decide) (by decide) rfl eg ec rfl (Nat.le_of_eq (Nat.zero_add s)) ?_
  rw [eA]
  exact wp_mono K (fun k v h' z => wp_ret_weak (re_sb_nil _) z)
theorem B326_9 {SC : List Value} {d s : Nat} {h : re_H} {Q : Nat → Value → re_H → Prop} 
    (K : Q 0 .null h) : wp SC 326 d s 9 [] [] h Q := by
  exact wp_retv ⟨rfl, rfl⟩ rfl K
theorem B327_0 {SC : List Value} {d s : Nat} {h : re_H} {Q : Nat → Value → re_H → Prop} {a0 : Nat}
    {w : List Value} (e : re_hg h a0 = some (5, w)) (hk : 2 < w.length) (K : wp SC 327 d s 5 [(0, .ref a0)] [] (re_hw h a0 (5, w.set 2 (.int (i32 0)))) Q) : wp SC 327 d s 0 [(0, .ref a0)] [] h Q := by
  refine wp_run 2 (pc' := 2) (lv' := [(0, .ref a0)]) (st' := [.int (i32 0), .ref a0]) rfl ?_
  exact wp_pf ⟨rfl, rfl⟩ rfl (Or.inl rfl) e hk (fit_i _) (wp_weak (re_sb_at rfl (re_sb_nil _)) K)
theorem B327_5 {SC : List Value} {d s : Nat} {h : re_H} {Q : Nat → Value → re_H → Prop} {a0 : Nat}
    (K : wp SC 327 d s 7 [(0, .ref a0), (1, .int (i32 0))] [] h Q) : wp SC 327 d s 5 [(0, .ref a0)] [] h Q := by
  refine wp_run 2 (pc' := 7) (lv' := [(1, .int (i32 0)), (0, .ref a0)]) (st' := []) rfl ?_
  exact wp_weak (re_sb_at rfl (re_sb_at rfl (re_sb_nil _))) K
theorem B327_7 {SC : List Value} {d s : Nat} {h : re_H} {Q : Nat → Value → re_H → Prop} {a0 : Nat} {x1 : Int32}
    (K1 : ¬ x1 < (i32 4) → wp SC 327 d s 25 [] [] h Q) (K2 : x1 < (i32 4) → wp SC 327 d s 12 [(0, .ref a0), (1, .int x1)] [] h Q) : wp SC 327 d s 7 [(0, .ref a0), (1, .int x1)] [] h Q := by
  refine wp_run 2 (pc' := 9) (lv' := [(0, .ref a0), (1, .int x1)]) (st' := [.int (i32 4), .int x1]) rfl ?_
  exact wp_cmp ⟨rfl, rfl⟩ rfl (fun hc => wp_weak (re_sb_nil _) (K1 (ic1_ge hc))) (fun hc => wp_weak (re_sb_at rfl (re_sb_at rfl (re_sb_nil _))) (K2 (ic0_ge hc)))
theorem B327_12 {SC : List Value} {d s : Nat} {h : re_H} {Q : Nat → Value → re_H → Prop} {a0 : Nat} {x1 : Int32}
    {ae1 : Nat} (e2 : nb_fd h a0 5 5 (.ref ae1)) {w : List Value} {i : Nat} (e : re_hg h ae1 = some (106, w)) (hx : x1 = i32 i) (hi : i < 2147483648) (hl : i < w.length) (K : wp SC 327 d s 19 [(0, .ref a0), (1, .int x1)] [] (re_hw h ae1 (106, w.set i (.null))) Q) : wp SC 327 d s 12 [(0, .ref a0), (1, .int x1)] [] h Q := by
  refine wp_run 1 (pc' := 13) (lv' := [(0, .ref a0), (1, .int x1)]) (st' := [.ref a0]) rfl ?_
  obtain ⟨w2, e2a, e2b⟩ := e2
  refine wp_gf ⟨rfl, rfl⟩ rfl e2a e2b ?_
  refine wp_run 2 (pc' := 18) (lv' := [(0, .ref a0), (1, .int x1)]) (st' := [.null, .int x1, .ref ae1]) rfl ?_
  exact wp_aas ⟨rfl, rfl⟩ e ⟨by decide, by decide⟩ hx hi hl (Or.inl rfl) (wp_weak (re_sb_at rfl (re_sb_at rfl (re_sb_nil _))) K)
theorem B327_19 {SC : List Value} {d s : Nat} {h : re_H} {Q : Nat → Value → re_H → Prop} {a0 : Nat} {x1 : Int32}
    (K : wp SC 327 d s 7 [(0, .ref a0), (1, .int (x1 + (i32 1)))] [] h Q) : wp SC 327 d s 19 [(0, .ref a0), (1, .int x1)] [] h Q := by
  refine wp_run 2 (pc' := 7) (lv' := [(1, .int (x1 + (i32 1))), (0, .ref a0)]) (st' := []) rfl ?_
  exact wp_weak (re_sb_at rfl (re_sb_at rfl (re_sb_nil _))) K
theorem B327_25 {SC : List Value} {d s : Nat} {h : re_H} {Q : Nat → Value → re_H → Prop} 
    (K : Q 0 .null h) : wp SC 327 d s 25 [] [] h Q := by
  exact wp_retv ⟨rfl, rfl⟩ rfl K
theorem B328_0 {SC : List Value} {d s : Nat} {h : re_H} {Q : Nat → Value → re_H → Prop} {a0 : Nat} {a1 : Nat} {a2 : Nat}
    {c : Nat} {w : List Value} (eg : re_hg h a0 = some (c, w)) (ec : c = 5) (K : wp SC 327 d 0 0 [(0, .ref a0)] [] h (wp_ret SC 328 (d + 1) s 4 [(0, .ref a0), (1, .ref a1), (2, .ref a2)] [] Q)) : wp SC 328 (d + 1) s 0 [(0, .ref a0), (1, .ref a1), (2, .ref a2)] [] h Q := by
  refine wp_run 1 (pc' := 1) (lv' := [(0, .ref a0), (1, .ref a1), (2, .ref a2)]) (st' := [.ref a0]) rfl ?_
  have eA : lv_args 0 (.ref a0 :: [].reverse) = [(0, .ref a0)] := by simp [lv_args, vc_i, vc_l, vc_r, vc_n, vc_a]
  refine wp_callV (ar := []) (rest := []) (s1 := 0) (s2 := s) (d' := d) ⟨rfl, rfl⟩ rfl (Or.inl rfl)  (by simp [re_cat, vc_i, vc_l, vc_r, vc_n, vc_a]) (by rw [show re_cat (.ref a0 :: [].reverse) = 1 from by simp [re_cat, vc_i, vc_l, vc_r, vc_n, vc_a]]; decide) (by decide) rfl eg ec rfl (Nat.le_of_eq (Nat.zero_add s)) ?_
  rw [eA]
  exact wp_mono K (fun k v h' z => wp_ret_weak (re_sb_at rfl (re_sb_at rfl (re_sb_at rfl (re_sb_nil _)))) z)
theorem B328_4 {SC : List Value} {d s : Nat} {h : re_H} {Q : Nat → Value → re_H → Prop} {a0 : Nat} {a1 : Nat} {a2 : Nat}
    {w : List Value} (e : re_hg h a0 = some (5, w)) (hk : 0 < w.length) (K : wp SC 328 d s 9 [(0, .ref a0), (1, .ref a1), (2, .ref a2)] [] (re_hw h a0 (5, w.set 0 (.int (i32 0)))) Q) : wp SC 328 d s 4 [(0, .ref a0), (1, .ref a1), (2, .ref a2)] [] h Q := by
  refine wp_run 2 (pc' := 6) (lv' := [(0, .ref a0), (1, .ref a1), (2, .ref a2)]) (st' := [.int (i32 0), .ref a0]) rfl ?_
  exact wp_pf ⟨rfl, rfl⟩ rfl (Or.inl rfl) e hk (fit_i _) (wp_weak (re_sb_at rfl (re_sb_at rfl (re_sb_at rfl (re_sb_nil _)))) K)
theorem B328_9 {SC : List Value} {d s : Nat} {h : re_H} {Q : Nat → Value → re_H → Prop} {a0 : Nat} {a1 : Nat} {a2 : Nat}
    {xe1 : Int32} (e2 : nb_fd h a0 5 1 (.int xe1)) {w : List Value} (e : re_hg h a0 = some (5, w)) (hk : 1 < w.length) (K : wp SC 328 d s 19 [(0, .ref a0), (1, .ref a1), (2, .ref a2)] [] (re_hw h a0 (5, w.set 1 (.int (xe1 + (i32 1))))) Q) : wp SC 328 d s 9 [(0, .ref a0), (1, .ref a1), (2, .ref a2)] [] h Q := by
  refine wp_run 2 (pc' := 11) (lv' := [(0, .ref a0), (1, .ref a1), (2, .ref a2)]) (st' := [.ref a0, .ref a0]) rfl ?_
  obtain ⟨w2, e2a, e2b⟩ := e2
  refine wp_gf ⟨rfl, rfl⟩ rfl e2a e2b ?_
  refine wp_run 2 (pc' := 16) (lv' := [(0, .ref a0), (1, .ref a1), (2, .ref a2)]) (st' := [.int (xe1 + (i32 1)), .ref a0]) rfl ?_
  exact wp_pf ⟨rfl, rfl⟩ rfl (Or.inl rfl) e hk (fit_i _) (wp_weak (re_sb_at rfl (re_sb_at rfl (re_sb_at rfl (re_sb_nil _)))) K)
theorem B328_19 {SC : List Value} {d s : Nat} {h : re_H} {Q : Nat → Value → re_H → Prop} {a0 : Nat} {a1 : Nat} {a2 : Nat}
    {ae1 : Nat} (e2 : nb_fd h a0 5 6 (.ref ae1)) {c : Nat} {w : List Value} (eg : re_hg h ae1 = some (c, w)) (ec : c = 2) (K : wp SC 134 d 0 0 [(0, .ref ae1), (1, .ref a1)] [] h (wp_ret SC 328 (d + 1) s 27 [(0, .ref a0), (2, .ref a2)] [] Q)) : wp SC 328 (d + 1) s 19 [(0, .ref a0), (1, .ref a1), (2, .ref a2)] [] h Q := by
  refine wp_run 1 (pc' := 20) (lv' := [(0, .ref a0), (1, .ref a1), (2, .ref a2)]) (st' := [.ref a0]) rfl ?_
  obtain ⟨w2, e2a, e2b⟩ := e2
  refine wp_gf ⟨rfl, rfl⟩ rfl e2a e2b ?_
  refine wp_run 1 (pc' := 24) (lv' := [(0, .ref a0), (1, .ref a1), (2, .ref a2)]) (st' := [.ref a1, .ref ae1]) rfl ?_
  have eA : lv_args 0 (.ref ae1 :: [.ref a1].reverse) = [(0, .ref ae1), (1, .ref a1)] := by simp [lv_args, vc_i, vc_l, vc_r, vc_n, vc_a]
  refine wp_callV (ar := [.ref a1]) (rest := []) (s1 := 0) (s2 := s) (d' := d) ⟨rfl, rfl⟩ rfl (Or.inl rfl)  (by simp [re_cat, vc_i, vc_l, vc_r, vc_n, vc_a]) (by rw [show re_cat (.ref ae1 :: [.ref a1].reverse) = 2 from by simp [re_cat, vc_i, vc_l, vc_r, vc_n, vc_a]]; decide) (by decide) rfl eg ec rfl (Nat.le_of_eq (Nat.zero_add s)) ?_
  rw [eA]
  exact wp_mono K (fun k v h' z => wp_ret_weak (re_sb_at rfl (re_sb_at rfl (re_sb_nil _))) z)
theorem B328_27 {SC : List Value} {d s : Nat} {h : re_H} {Q : Nat → Value → re_H → Prop} {a0 : Nat} {a2 : Nat}
    {xe1 : Int32} (e2 : nb_fd h a2 4 1 (.int xe1)) {w : List Value} (e : re_hg h a0 = some (5, w)) (hk : 8 < w.length) (K : wp SC 328 d s 35 [(0, .ref a0), (2, .ref a2)] [] (re_hw h a0 (5, w.set 8 (.int xe1))) Q) : wp SC 328 d s 27 [(0, .ref a0), (2, .ref a2)] [] h Q := by
  refine wp_run 2 (pc' := 29) (lv' := [(0, .ref a0), (2, .ref a2)]) (st' := [.ref a2, .ref a0]) rfl ?_
  obtain ⟨w2, e2a, e2b⟩ := e2
  refine wp_gf ⟨rfl, rfl⟩ rfl e2a e2b ?_
  exact wp_pf ⟨rfl, rfl⟩ rfl (Or.inl rfl) e hk (fit_i _) (wp_weak (re_sb_at rfl (re_sb_at rfl (re_sb_nil _))) K)
theorem B328_35 {SC : List Value} {d s : Nat} {h : re_H} {Q : Nat → Value → re_H → Prop} {a0 : Nat} {a2 : Nat}
    (K : wp SC 328 d s 37 [(0, .ref a0), (2, .ref a2), (3, .int (i32 0))] [] h Q) : wp SC 328 d s 35 [(0, .ref a0), (2, .ref a2)] [] h Q := by
  refine wp_run 2 (pc' := 37) (lv' := [(3, .int (i32 0)), (0, .ref a0), (2, .ref a2)]) (st' := []) rfl ?_
  exact wp_weak (re_sb_at rfl (re_sb_at rfl (re_sb_at rfl (re_sb_nil _)))) K
theorem B328_37 {SC : List Value} {d s : Nat} {h : re_H} {Q : Nat → Value → re_H → Prop} {a0 : Nat} {a2 : Nat} {x3 : Int32}
    (K1 : ¬ x3 < (i32 4) → wp SC 328 d s 60 [] [] h Q) (K2 : x3 < (i32 4) → wp SC 328 d s 42 [(0, .ref a0), (2, .ref a2), (3, .int x3)] [] h Q) : wp SC 328 d s 37 [(0, .ref a0), (2, .ref a2), (3, .int x3)] [] h Q := by
  refine wp_run 2 (pc' := 39) (lv' := [(0, .ref a0), (2, .ref a2), (3, .int x3)]) (st' := [.int (i32 4), .int x3]) rfl ?_
  exact wp_cmp ⟨rfl, rfl⟩ rfl (fun hc => wp_weak (re_sb_nil _) (K1 (ic1_ge hc))) (fun hc => wp_weak (re_sb_at rfl (re_sb_at rfl (re_sb_at rfl (re_sb_nil _)))) (K2 (ic0_ge hc)))
theorem B328_42 {SC : List Value} {d s : Nat} {h : re_H} {Q : Nat → Value → re_H → Prop} {a0 : Nat} {a2 : Nat} {x3 : Int32}
    {ae1 : Nat} (e2 : nb_fd h a0 5 7 (.ref ae1)) {ae3 : Nat} (e4 : nb_fd h a2 4 0 (.ref ae3)) {le5 : Int64} (e6 : nb_ar h ae3 101 x3 (.long le5)) {w : List Value} {i : Nat} (e : re_hg h ae1 = some (101, w)) (hx : x3 = i32 i) (hi : i < 2147483648) (hl : i < w.length) (K : wp SC 328 d s 54 [(0, .ref a0), (2, .ref a2), (3, .int x3)] [] (re_hw h ae1 (101, w.set i (.long le5))) Q) : wp SC 328 d s 42 [(0, .ref a0), (2, .ref a2), (3, .int x3)] [] h Q := by
  refine wp_run 1 (pc' := 43) (lv' := [(0, .ref a0), (2, .ref a2), (3, .int x3)]) (st' := [.ref a0]) rfl ?_
  obtain ⟨w2, e2a, e2b⟩ := e2
  refine wp_gf ⟨rfl, rfl⟩ rfl e2a e2b ?_
  refine wp_run 2 (pc' := 48) (lv' := [(0, .ref a0), (2, .ref a2), (3, .int x3)]) (st' := [.ref a2, .int x3, .ref ae1]) rfl ?_
  obtain ⟨w4, e4a, e4b⟩ := e4
  refine wp_gf ⟨rfl, rfl⟩ rfl e4a e4b ?_
  refine wp_run 1 (pc' := 52) (lv' := [(0, .ref a0), (2, .ref a2), (3, .int x3)]) (st' := [.int x3, .ref ae3, .int x3, .ref ae1]) rfl ?_
  obtain ⟨w6, i6, e6a, e6x, e6i, e6v⟩ := e6
  refine wp_lal ⟨rfl, rfl⟩ e6a rfl e6x e6i e6v ?_
  exact wp_las ⟨rfl, rfl⟩ e rfl hx hi hl (wp_weak (re_sb_at rfl (re_sb_at rfl (re_sb_at rfl (re_sb_nil _)))) K)
theorem B328_54 {SC : List Value} {d s : Nat} {h : re_H} {Q : Nat → Value → re_H → Prop} {a0 : Nat} {a2 : Nat} {x3 : Int32}
    (K : wp SC 328 d s 37 [(0, .ref a0), (2, .ref a2), (3, .int (x3 + (i32 1)))] [] h Q) : wp SC 328 d s 54 [(0, .ref a0), (2, .ref a2), (3, .int x3)] [] h Q := by
  refine wp_run 2 (pc' := 37) (lv' := [(3, .int (x3 + (i32 1))), (0, .ref a0), (2, .ref a2)]) (st' := []) rfl ?_
  exact wp_weak (re_sb_at rfl (re_sb_at rfl (re_sb_at rfl (re_sb_nil _)))) K
theorem B328_60 {SC : List Value} {d s : Nat} {h : re_H} {Q : Nat → Value → re_H → Prop} 
    (K : Q 0 .null h) : wp SC 328 d s 60 [] [] h Q := by
  exact wp_retv ⟨rfl, rfl⟩ rfl K
theorem B329_0 {SC : List Value} {d s : Nat} {h : re_H} {Q : Nat → Value → re_H → Prop} {a0 : Nat} {x1 : Int32} {x2 : Int32} {l3 : Int64}
    {ae1 : Nat} (e2 : nb_fd h a0 5 9 (.ref ae1)) {w : List Value} {i : Nat} (e : re_hg h ae1 = some (100, w)) (hx : x1 = i32 i) (hi : i < 2147483648) (hl : i < w.length) (K : wp SC 329 d s 7 [(0, .ref a0), (1, .int x1), (3, .long l3)] [] (re_hw h ae1 (100, w.set i (.int x2))) Q) : wp SC 329 d s 0 [(0, .ref a0), (1, .int x1), (2, .int x2), (3, .long l3)] [] h Q := by
  refine wp_run 1 (pc' := 1) (lv' := [(0, .ref a0), (1, .int x1), (2, .int x2), (3, .long l3)]) (st' := [.ref a0]) rfl ?_
  obtain ⟨w2, e2a, e2b⟩ := e2
  refine wp_gf ⟨rfl, rfl⟩ rfl e2a e2b ?_
  refine wp_run 2 (pc' := 6) (lv' := [(0, .ref a0), (1, .int x1), (2, .int x2), (3, .long l3)]) (st' := [.int x2, .int x1, .ref ae1]) rfl ?_
  exact wp_ias ⟨rfl, rfl⟩ e rfl hx hi hl (wp_weak (re_sb_at rfl (re_sb_at rfl (re_sb_at rfl (re_sb_nil _)))) K)
theorem B329_7 {SC : List Value} {d s : Nat} {h : re_H} {Q : Nat → Value → re_H → Prop} {a0 : Nat} {x1 : Int32} {l3 : Int64}
    {ae1 : Nat} (e2 : nb_fd h a0 5 10 (.ref ae1)) {w : List Value} {i : Nat} (e : re_hg h ae1 = some (101, w)) (hx : x1 = i32 i) (hi : i < 2147483648) (hl : i < w.length) (K : wp SC 329 d s 14 [] [] (re_hw h ae1 (101, w.set i (.long l3))) Q) : wp SC 329 d s 7 [(0, .ref a0), (1, .int x1), (3, .long l3)] [] h Q := by
  refine wp_run 1 (pc' := 8) (lv' := [(0, .ref a0), (1, .int x1), (3, .long l3)]) (st' := [.ref a0]) rfl ?_
  obtain ⟨w2, e2a, e2b⟩ := e2
  refine wp_gf ⟨rfl, rfl⟩ rfl e2a e2b ?_
  refine wp_run 2 (pc' := 13) (lv' := [(0, .ref a0), (1, .int x1), (3, .long l3)]) (st' := [.long l3, .int x1, .ref ae1]) rfl ?_
  exact wp_las ⟨rfl, rfl⟩ e rfl hx hi hl (wp_weak (re_sb_nil _) K)
theorem B329_14 {SC : List Value} {d s : Nat} {h : re_H} {Q : Nat → Value → re_H → Prop} 
    (K : Q 0 .null h) : wp SC 329 d s 14 [] [] h Q := by
  exact wp_retv ⟨rfl, rfl⟩ rfl K
theorem B330_0 {SC : List Value} {d s : Nat} {h : re_H} {Q : Nat → Value → re_H → Prop} {a0 : Nat} {x1 : Int32}
    {c : Nat} {w : List Value} (eg : re_hg h a0 = some (c, w)) (ec : c = 5) (K : wp SC 323 d 0 0 [(0, .ref a0), (1, .int x1)] [] h (wp_ret SC 330 (d + 1) s 5 [(0, .ref a0)] [] Q)) : wp SC 330 (d + 1) s 0 [(0, .ref a0), (1, .int x1)] [] h Q := by
  refine wp_run 2 (pc' := 2) (lv' := [(0, .ref a0), (1, .int x1)]) (st' := [.int x1, .ref a0]) rfl ?_
  have eA : lv_args 0 (.ref a0 :: [.int x1].reverse) = [(0, .ref a0), (1, .int x1)] := by simp [lv_args, vc_i, vc_l, vc_r, vc_n, vc_a]
  refine wp_callV (ar := [.int x1]) (rest := []) (s1 := 0) (s2 := s) (d' := d) ⟨rfl, rfl⟩ rfl (Or.inl rfl)  (by simp [re_cat, vc_i, vc_l, vc_r, vc_n, vc_a]) (by rw [show re_cat (.ref a0 :: [.int x1].reverse) = 2 from by simp [re_cat, vc_i, vc_l, vc_r, vc_n, vc_a]]; decide) (by decide) rfl eg ec rfl (Nat.le_of_eq (Nat.zero_add s)) ?_
  rw [eA]
  exact wp_mono K (fun k v h' z => wp_ret_weak (re_sb_at rfl (re_sb_nil _)) z)
theorem B330_5 {SC : List Value} {d s : Nat} {h : re_H} {Q : Nat → Value → re_H → Prop} {a0 : Nat} {xs0 : Int32}
    (K1 : ¬ xs0 < 0 → wp SC 330 d s 14 [(0, .ref a0), (2, .int xs0)] [] h Q) (K2 : xs0 < 0 → wp SC 330 d s 10 [] [] h Q) : wp SC 330 d s 5 [(0, .ref a0)] [.int xs0] h Q := by
  refine wp_run 2 (pc' := 7) (lv' := [(2, .int xs0), (0, .ref a0)]) (st' := [.int xs0]) rfl ?_
  exact wp_if ⟨rfl, rfl⟩ rfl (fun hc => wp_weak (re_sb_at rfl (re_sb_at rfl (re_sb_nil _))) (K1 (ic1_ge hc))) (fun hc => wp_weak (re_sb_nil _) (K2 (ic0_ge hc)))
theorem B330_10 {SC : List Value} {d s : Nat} {h : re_H} {Q : Nat → Value → re_H → Prop} 
    (K : wp SC 330 d s 20 [] [.null] h Q) : wp SC 330 d s 10 [] [] h Q := by
  refine wp_run 2 (pc' := 20) (lv' := []) (st' := [.null]) rfl ?_
  exact wp_weak (re_sb_nil _) K
theorem B330_14 {SC : List Value} {d s : Nat} {h : re_H} {Q : Nat → Value → re_H → Prop} {a0 : Nat} {x2 : Int32}
    {ae1 : Nat} (e2 : nb_fd h a0 5 5 (.ref ae1)) {ve3 : Value} (re3 : re_R ve3) (e4 : nb_ar h ae1 106 x2 (ve3)) (K : wp SC 330 d s 20 [] [ve3] h Q) : wp SC 330 d s 14 [(0, .ref a0), (2, .int x2)] [] h Q := by
  refine wp_run 1 (pc' := 15) (lv' := [(0, .ref a0), (2, .int x2)]) (st' := [.ref a0]) rfl ?_
  obtain ⟨w2, e2a, e2b⟩ := e2
  refine wp_gf ⟨rfl, rfl⟩ rfl e2a e2b ?_
  refine wp_run 1 (pc' := 19) (lv' := [(0, .ref a0), (2, .int x2)]) (st' := [.int x2, .ref ae1]) rfl ?_
  obtain ⟨w4, i4, e4a, e4x, e4i, e4v⟩ := e4
  refine wp_aal ⟨rfl, rfl⟩ e4a ⟨by decide, by decide⟩ e4x e4i e4v ?_
  exact wp_weak (re_sb_nil _) K
theorem B330_20 {SC : List Value} {d s : Nat} {h : re_H} {Q : Nat → Value → re_H → Prop} {vs0 : Value} (rs0 : re_R vs0)
    (K : Q 3 vs0 h) : wp SC 330 d s 20 [] [vs0] h Q := by
  exact wp_reta ⟨rfl, rfl⟩ rfl rs0 K
theorem B331_0 {SC : List Value} {d s : Nat} {h : re_H} {Q : Nat → Value → re_H → Prop} {a0 : Nat} {x1 : Int32} {l2 : Int64} {v4 : Value} (r4 : re_R v4)
    {xe1 : Int32} (e2 : nb_fd h a0 5 2 (.int xe1)) (K1 : ¬ xe1 < (i32 4) → wp SC 331 d s 49 [] [] h Q) (K2 : xe1 < (i32 4) → wp SC 331 d s 8 [(0, .ref a0), (1, .int x1), (2, .long l2), (4, v4)] [] h Q) : wp SC 331 d s 0 [(0, .ref a0), (1, .int x1), (2, .long l2), (4, v4)] [] h Q := by
  refine wp_run 1 (pc' := 1) (lv' := [(0, .ref a0), (1, .int x1), (2, .long l2), (4, v4)]) (st' := [.ref a0]) rfl ?_
  obtain ⟨w2, e2a, e2b⟩ := e2
  refine wp_gf ⟨rfl, rfl⟩ rfl e2a e2b ?_
  refine wp_run 1 (pc' := 5) (lv' := [(0, .ref a0), (1, .int x1), (2, .long l2), (4, v4)]) (st' := [.int (i32 4), .int xe1]) rfl ?_
  exact wp_cmp ⟨rfl, rfl⟩ rfl (fun hc => wp_weak (re_sb_nil _) (K1 (ic1_ge hc))) (fun hc => wp_weak (re_sb_at rfl (re_sb_at rfl (re_sb_at rfl (re_sb_at rfl (re_sb_nil _))))) (K2 (ic0_ge hc)))
theorem B331_8 {SC : List Value} {d s : Nat} {h : re_H} {Q : Nat → Value → re_H → Prop} {a0 : Nat} {x1 : Int32} {l2 : Int64} {v4 : Value} (r4 : re_R v4)
    {ae1 : Nat} (e2 : nb_fd h a0 5 3 (.ref ae1)) {xe3 : Int32} (e4 : nb_fd h a0 5 2 (.int xe3)) {w : List Value} {i : Nat} (e : re_hg h ae1 = some (100, w)) (hx : xe3 = i32 i) (hi : i < 2147483648) (hl : i < w.length) (K : wp SC 331 d s 18 [(0, .ref a0), (2, .long l2), (4, v4)] [] (re_hw h ae1 (100, w.set i (.int x1))) Q) : wp SC 331 d s 8 [(0, .ref a0), (1, .int x1), (2, .long l2), (4, v4)] [] h Q := by
  refine wp_run 1 (pc' := 9) (lv' := [(0, .ref a0), (1, .int x1), (2, .long l2), (4, v4)]) (st' := [.ref a0]) rfl ?_
  obtain ⟨w2, e2a, e2b⟩ := e2
  refine wp_gf ⟨rfl, rfl⟩ rfl e2a e2b ?_
  refine wp_run 1 (pc' := 13) (lv' := [(0, .ref a0), (1, .int x1), (2, .long l2), (4, v4)]) (st' := [.ref a0, .ref ae1]) rfl ?_
  obtain ⟨w4, e4a, e4b⟩ := e4
  refine wp_gf ⟨rfl, rfl⟩ rfl e4a e4b ?_
  refine wp_run 1 (pc' := 17) (lv' := [(0, .ref a0), (1, .int x1), (2, .long l2), (4, v4)]) (st' := [.int x1, .int xe3, .ref ae1]) rfl ?_
  exact wp_ias ⟨rfl, rfl⟩ e rfl hx hi hl (wp_weak (re_sb_at rfl (re_sb_at rfl (re_sb_at rfl (re_sb_nil _)))) K)
theorem B331_18 {SC : List Value} {d s : Nat} {h : re_H} {Q : Nat → Value → re_H → Prop} {a0 : Nat} {l2 : Int64} {v4 : Value} (r4 : re_R v4)
    {ae1 : Nat} (e2 : nb_fd h a0 5 4 (.ref ae1)) {xe3 : Int32} (e4 : nb_fd h a0 5 2 (.int xe3)) {w : List Value} {i : Nat} (e : re_hg h ae1 = some (101, w)) (hx : xe3 = i32 i) (hi : i < 2147483648) (hl : i < w.length) (K : wp SC 331 d s 28 [(0, .ref a0), (4, v4)] [] (re_hw h ae1 (101, w.set i (.long l2))) Q) : wp SC 331 d s 18 [(0, .ref a0), (2, .long l2), (4, v4)] [] h Q := by
  refine wp_run 1 (pc' := 19) (lv' := [(0, .ref a0), (2, .long l2), (4, v4)]) (st' := [.ref a0]) rfl ?_
  obtain ⟨w2, e2a, e2b⟩ := e2
  refine wp_gf ⟨rfl, rfl⟩ rfl e2a e2b ?_
  refine wp_run 1 (pc' := 23) (lv' := [(0, .ref a0), (2, .long l2), (4, v4)]) (st' := [.ref a0, .ref ae1]) rfl ?_
  obtain ⟨w4, e4a, e4b⟩ := e4
  refine wp_gf ⟨rfl, rfl⟩ rfl e4a e4b ?_
  refine wp_run 1 (pc' := 27) (lv' := [(0, .ref a0), (2, .long l2), (4, v4)]) (st' := [.long l2, .int xe3, .ref ae1]) rfl ?_
  exact wp_las ⟨rfl, rfl⟩ e rfl hx hi hl (wp_weak (re_sb_at rfl (re_sb_at rfl (re_sb_nil _))) K)
theorem B331_28 {SC : List Value} {d s : Nat} {h : re_H} {Q : Nat → Value → re_H → Prop} {a0 : Nat} {v4 : Value} (r4 : re_R v4)
    {ae1 : Nat} (e2 : nb_fd h a0 5 5 (.ref ae1)) {xe3 : Int32} (e4 : nb_fd h a0 5 2 (.int xe3)) {w : List Value} {i : Nat} (e : re_hg h ae1 = some (106, w)) (hx : xe3 = i32 i) (hi : i < 2147483648) (hl : i < w.length) (hv : v4 = .null ∨ ∃ (b : Nat) (ws : List Value), v4 = .ref b ∧ re_hg h b = some (10, ws)) (K : wp SC 331 d s 39 [(0, .ref a0)] [] (re_hw h ae1 (106, w.set i (v4))) Q) : wp SC 331 d s 28 [(0, .ref a0), (4, v4)] [] h Q := by
  refine wp_run 1 (pc' := 29) (lv' := [(0, .ref a0), (4, v4)]) (st' := [.ref a0]) rfl ?_
  obtain ⟨w2, e2a, e2b⟩ := e2
  refine wp_gf ⟨rfl, rfl⟩ rfl e2a e2b ?_
  refine wp_run 1 (pc' := 33) (lv' := [(0, .ref a0), (4, v4)]) (st' := [.ref a0, .ref ae1]) rfl ?_
  obtain ⟨w4, e4a, e4b⟩ := e4
  refine wp_gf ⟨rfl, rfl⟩ rfl e4a e4b ?_
  refine wp_alR (ins := .aload 4) (k := 4) (pc' := 38) ⟨rfl, rfl⟩ (Or.inl ⟨_, rfl, rfl, rfl⟩) rfl r4 ?_
  exact wp_aas ⟨rfl, rfl⟩ e ⟨by decide, by decide⟩ hx hi hl (hv.elim Or.inl (fun z => by obtain ⟨b, ws, z1, z2⟩ := z; exact Or.inr ⟨b, _, ws, z1, z2, by decide⟩)) (wp_weak (re_sb_at rfl (re_sb_nil _)) K)
theorem B331_39 {SC : List Value} {d s : Nat} {h : re_H} {Q : Nat → Value → re_H → Prop} {a0 : Nat}
    {xe1 : Int32} (e2 : nb_fd h a0 5 2 (.int xe1)) {w : List Value} (e : re_hg h a0 = some (5, w)) (hk : 2 < w.length) (K : wp SC 331 d s 49 [] [] (re_hw h a0 (5, w.set 2 (.int (xe1 + (i32 1))))) Q) : wp SC 331 d s 39 [(0, .ref a0)] [] h Q := by
  refine wp_run 2 (pc' := 41) (lv' := [(0, .ref a0)]) (st' := [.ref a0, .ref a0]) rfl ?_
  obtain ⟨w2, e2a, e2b⟩ := e2
  refine wp_gf ⟨rfl, rfl⟩ rfl e2a e2b ?_
  refine wp_run 2 (pc' := 46) (lv' := [(0, .ref a0)]) (st' := [.int (xe1 + (i32 1)), .ref a0]) rfl ?_
  exact wp_pf ⟨rfl, rfl⟩ rfl (Or.inl rfl) e hk (fit_i _) (wp_weak (re_sb_nil _) K)
theorem B331_49 {SC : List Value} {d s : Nat} {h : re_H} {Q : Nat → Value → re_H → Prop} 
    (K : Q 0 .null h) : wp SC 331 d s 49 [] [] h Q := by
  exact wp_retv ⟨rfl, rfl⟩ rfl K
theorem B332_0 {SC : List Value} {d s : Nat} {h : re_H} {Q : Nat → Value → re_H → Prop} {a0 : Nat}
    {w : List Value} (e : re_hg h a0 = some (5, w)) (hk : 0 < w.length) (K : wp SC 332 d s 5 [(0, .ref a0)] [] (re_hw h a0 (5, w.set 0 (.int (-1)))) Q) : wp SC 332 d s 0 [(0, .ref a0)] [] h Q := by
  refine wp_run 2 (pc' := 2) (lv' := [(0, .ref a0)]) (st' := [.int (-1), .ref a0]) rfl ?_
  exact wp_pf ⟨rfl, rfl⟩ rfl (Or.inl rfl) e hk (fit_i _) (wp_weak (re_sb_at rfl (re_sb_nil _)) K)
theorem B332_5 {SC : List Value} {d s : Nat} {h : re_H} {Q : Nat → Value → re_H → Prop} {a0 : Nat}
    {w : List Value} (e : re_hg h a0 = some (5, w)) (hk : 1 < w.length) (K : wp SC 332 d s 10 [(0, .ref a0)] [] (re_hw h a0 (5, w.set 1 (.int (i32 0)))) Q) : wp SC 332 d s 5 [(0, .ref a0)] [] h Q := by
  refine wp_run 2 (pc' := 7) (lv' := [(0, .ref a0)]) (st' := [.int (i32 0), .ref a0]) rfl ?_
  exact wp_pf ⟨rfl, rfl⟩ rfl (Or.inl rfl) e hk (fit_i _) (wp_weak (re_sb_at rfl (re_sb_nil _)) K)
theorem B332_10 {SC : List Value} {d s : Nat} {h : re_H} {Q : Nat → Value → re_H → Prop} {a0 : Nat}
    {c : Nat} {w : List Value} (eg : re_hg h a0 = some (c, w)) (ec : c = 5) (K : wp SC 327 d 0 0 [(0, .ref a0)] [] h (wp_ret SC 332 (d + 1) s 14 [(0, .ref a0)] [] Q)) : wp SC 332 (d + 1) s 10 [(0, .ref a0)] [] h Q := by
  refine wp_run 1 (pc' := 11) (lv' := [(0, .ref a0)]) (st' := [.ref a0]) rfl ?_
  have eA : lv_args 0 (.ref a0 :: [].reverse) = [(0, .ref a0)] := by simp [lv_args, vc_i, vc_l, vc_r, vc_n, vc_a]
  refine wp_callV (ar := []) (rest := []) (s1 := 0) (s2 := s) (d' := d) ⟨rfl, rfl⟩ rfl (Or.inl rfl)  (by simp [re_cat, vc_i, vc_l, vc_r, vc_n, vc_a]) (by rw [show re_cat (.ref a0 :: [].reverse) = 1 from by simp [re_cat, vc_i, vc_l, vc_r, vc_n, vc_a]]; decide) (by decide) rfl eg ec rfl (Nat.le_of_eq (Nat.zero_add s)) ?_
  rw [eA]
  exact wp_mono K (fun k v h' z => wp_ret_weak (re_sb_at rfl (re_sb_nil _)) z)
theorem B332_14 {SC : List Value} {d s : Nat} {h : re_H} {Q : Nat → Value → re_H → Prop} {a0 : Nat}
    {ae1 : Nat} (e2 : nb_fd h a0 5 6 (.ref ae1)) {c : Nat} {w : List Value} (eg : re_hg h ae1 = some (c, w)) (ec : c = 2) (K : wp SC 138 d 0 0 [(0, .ref ae1)] [] h (wp_ret SC 332 (d + 1) s 21 [] [] Q)) : wp SC 332 (d + 1) s 14 [(0, .ref a0)] [] h Q := by
  refine wp_run 1 (pc' := 15) (lv' := [(0, .ref a0)]) (st' := [.ref a0]) rfl ?_
  obtain ⟨w2, e2a, e2b⟩ := e2
  refine wp_gf ⟨rfl, rfl⟩ rfl e2a e2b ?_
  have eA : lv_args 0 (.ref ae1 :: [].reverse) = [(0, .ref ae1)] := by simp [lv_args, vc_i, vc_l, vc_r, vc_n, vc_a]
  refine wp_callV (ar := []) (rest := []) (s1 := 0) (s2 := s) (d' := d) ⟨rfl, rfl⟩ rfl (Or.inl rfl)  (by simp [re_cat, vc_i, vc_l, vc_r, vc_n, vc_a]) (by rw [show re_cat (.ref ae1 :: [].reverse) = 1 from by simp [re_cat, vc_i, vc_l, vc_r, vc_n, vc_a]]; decide) (by decide) rfl eg ec rfl (Nat.le_of_eq (Nat.zero_add s)) ?_
  rw [eA]
  exact wp_mono K (fun k v h' z => wp_ret_weak (re_sb_nil _) z)
theorem B332_21 {SC : List Value} {d s : Nat} {h : re_H} {Q : Nat → Value → re_H → Prop} 
    (K : Q 0 .null h) : wp SC 332 d s 21 [] [] h Q := by
  exact wp_retv ⟨rfl, rfl⟩ rfl K
