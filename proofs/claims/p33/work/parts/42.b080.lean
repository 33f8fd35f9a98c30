theorem B512_0 {SC : List Value} {d s : Nat} {h : re_H} {Q : Nat → Value → re_H → Prop} {a0 : Nat} {a1 : Nat} {a2 : Nat} {a3 : Nat} {a4 : Nat} {x5 : Int32}
    (K : wp SC 512 d s 4 [(0, .ref a0), (1, .ref a1), (2, .ref a2), (3, .ref a3), (4, .ref a4), (5, .int x5)] [] h Q) : wp SC 512 d s 0 [(0, .ref a0), (1, .ref a1), (2, .ref a2), (3, .ref a3), (4, .ref a4), (5, .int x5)] [] h Q := by
  refine wp_run 1 (pc' := 1) (lv' := [(0, .ref a0), (1, .ref a1), (2, .ref a2), (3, .ref a3), (4, .ref a4), (5, .int x5)]) (st' := [.ref a0]) rfl ?_
  refine wp_obj ⟨rfl, rfl⟩ rfl (by simp [re_cat, vc_i, vc_l, vc_r, vc_n, vc_a]) ?_
  exact wp_weak (re_sb_at rfl (re_sb_at rfl (re_sb_at rfl (re_sb_at rfl (re_sb_at rfl (re_sb_at rfl (re_sb_nil _))))))) K
theorem B512_4 {SC : List Value} {d s : Nat} {h : re_H} {Q : Nat → Value → re_H → Prop} {a0 : Nat} {a1 : Nat} {a2 : Nat} {a3 : Nat} {a4 : Nat} {x5 : Int32}
    {w : List Value} (e : re_hg h a0 = some (8, w)) (hk : 0 < w.length) (K : wp SC 512 d s 9 [(0, .ref a0), (2, .ref a2), (3, .ref a3), (4, .ref a4), (5, .int x5)] [] (re_hw h a0 (8, w.set 0 (.ref a1))) Q) : wp SC 512 d s 4 [(0, .ref a0), (1, .ref a1), (2, .ref a2), (3, .ref a3), (4, .ref a4), (5, .int x5)] [] h Q := by
  refine wp_run 2 (pc' := 6) (lv' := [(0, .ref a0), (1, .ref a1), (2, .ref a2), (3, .ref a3), (4, .ref a4), (5, .int x5)]) (st' := [.ref a1, .ref a0]) rfl ?_
  exact wp_pf ⟨rfl, rfl⟩ rfl (Or.inr ⟨rfl, rfl⟩) e hk (fit_o (Or.inr ⟨_, rfl⟩)) (wp_weak (re_sb_at rfl (re_sb_at rfl (re_sb_at rfl (re_sb_at rfl (re_sb_at rfl (re_sb_nil _)))))) K)
theorem B512_9 {SC : List Value} {d s : Nat} {h : re_H} {Q : Nat → Value → re_H → Prop} {a0 : Nat} {a2 : Nat} {a3 : Nat} {a4 : Nat} {x5 : Int32}
    {w : List Value} (e : re_hg h a0 = some (8, w)) (hk : 1 < w.length) (K : wp SC 512 d s 14 [(0, .ref a0), (3, .ref a3), (4, .ref a4), (5, .int x5)] [] (re_hw h a0 (8, w.set 1 (.ref a2))) Q) : wp SC 512 d s 9 [(0, .ref a0), (2, .ref a2), (3, .ref a3), (4, .ref a4), (5, .int x5)] [] h Q := by
  refine wp_run 2 (pc' := 11) (lv' := [(0, .ref a0), (2, .ref a2), (3, .ref a3), (4, .ref a4), (5, .int x5)]) (st' := [.ref a2, .ref a0]) rfl ?_
  exact wp_pf ⟨rfl, rfl⟩ rfl (Or.inr ⟨rfl, rfl⟩) e hk (fit_o (Or.inr ⟨_, rfl⟩)) (wp_weak (re_sb_at rfl (re_sb_at rfl (re_sb_at rfl (re_sb_at rfl (re_sb_nil _))))) K)
theorem B512_14 {SC : List Value} {d s : Nat} {h : re_H} {Q : Nat → Value → re_H → Prop} {a0 : Nat} {a3 : Nat} {a4 : Nat} {x5 : Int32}
    {w : List Value} (e : re_hg h a0 = some (8, w)) (hk : 2 < w.length) (K : wp SC 512 d s 19 [(0, .ref a0), (4, .ref a4), (5, .int x5)] [] (re_hw h a0 (8, w.set 2 (.ref a3))) Q) : wp SC 512 d s 14 [(0, .ref a0), (3, .ref a3), (4, .ref a4), (5, .int x5)] [] h Q := by
  refine wp_run 2 (pc' := 16) (lv' := [(0, .ref a0), (3, .ref a3), (4, .ref a4), (5, .int x5)]) (st' := [.ref a3, .ref a0]) rfl ?_
  exact wp_pf ⟨rfl, rfl⟩ rfl (Or.inr ⟨rfl, rfl⟩) e hk (fit_o (Or.inr ⟨_, rfl⟩)) (wp_weak (re_sb_at rfl (re_sb_at rfl (re_sb_at rfl (re_sb_nil _)))) K)
theorem B512_19 {SC : List Value} {d s : Nat} {h : re_H} {Q : Nat → Value → re_H → Prop} {a0 : Nat} {a4 : Nat} {x5 : Int32}
    {w : List Value} (e : re_hg h a0 = some (8, w)) (hk : 3 < w.length) (K : wp SC 512 d s 25 [(0, .ref a0), (5, .int x5)] [] (re_hw h a0 (8, w.set 3 (.ref a4))) Q) : wp SC 512 d s 19 [(0, .ref a0), (4, .ref a4), (5, .int x5)] [] h Q := by
  refine wp_run 2 (pc' := 22) (lv' := [(0, .ref a0), (4, .ref a4), (5, .int x5)]) (st' := [.ref a4, .ref a0]) rfl ?_
  exact wp_pf ⟨rfl, rfl⟩ rfl (Or.inr ⟨rfl, rfl⟩) e hk (fit_a (Or.inr ⟨_, rfl⟩)) (wp_weak (re_sb_at rfl (re_sb_at rfl (re_sb_nil _))) K)
theorem B512_25 {SC : List Value} {d s : Nat} {h : re_H} {Q : Nat → Value → re_H → Prop} {a0 : Nat} {x5 : Int32}
    {w : List Value} (e : re_hg h a0 = some (8, w)) (hk : 4 < w.length) (K : wp SC 512 d s 31 [] [] (re_hw h a0 (8, w.set 4 (.int x5))) Q) : wp SC 512 d s 25 [(0, .ref a0), (5, .int x5)] [] h Q := by
  refine wp_run 2 (pc' := 28) (lv' := [(0, .ref a0), (5, .int x5)]) (st' := [.int x5, .ref a0]) rfl ?_
  exact wp_pf ⟨rfl, rfl⟩ rfl (Or.inr ⟨rfl, rfl⟩) e hk (fit_i _) (wp_weak (re_sb_nil _) K)
theorem B512_31 {SC : List Value} {d s : Nat} {h : re_H} {Q : Nat → Value → re_H → Prop} 
    (K : Q 0 .null h) : wp SC 512 d s 31 [] [] h Q := by
  exact wp_retv ⟨rfl, rfl⟩ rfl K
set_option maxRecDepth 20000 in
theorem B513_0 {SC : List Value} {d s : Nat} {h : re_H} {Q : Nat → Value → re_H → Prop} {a0 : Nat} {x1 : Int32}
    {ae1 : Nat} (e2 : nb_fd h a0 8 0 (.ref ae1)) {c : Nat} {w : List Value} (eg : re_hg h ae1 = some (c, w)) (ec : c = 1) (K : wp SC 65 d 0 0 [(0, .ref ae1)] [] h (wp_ret SC 513 (d + 1) s 8 [(0, .ref a0)] [.int x1] Q)) : wp SC 513 (d + 1) s 0 [(0, .ref a0), (1, .int x1)] [] h Q := by
  refine wp_run 2 (pc' := 2) (lv' := [(0, .ref a0), (1, .int x1)]) (st' := [.ref a0, .int x1]) rfl ?_
  obtain ⟨w2, e2a, e2b⟩ := e2
  refine wp_gf ⟨rfl, rfl⟩ rfl e2a e2b ?_
  have eA : lv_args 0 (.ref ae1 :: [].reverse) = [(0, .ref ae1)] := by simp [lv_args, vc_i, vc_l, vc_r, vc_n, vc_a]
  refine wp_callV (ar := []) (rest := [.int x1]) (s1 := 0) (s2 := s) (d' := d) ⟨rfl, rfl⟩ rfl (Or.inl rfl)  (by simp [re_cat, vc_i, vc_l, vc_r, vc_n, vc_a]) (by rw [show re_cat (.ref ae1 :: [].reverse) = 1 from by simp [re_cat, vc_i, vc_l, vc_r, vc_n, vc_a]]; decide) (by decide) rfl eg ec rfl (Nat.le_of_eq (Nat.zero_add s)) ?_
  rw [eA]
  exact wp_mono K (fun k v h' z => wp_ret_weak (re_sb_at rfl (re_sb_nil _)) z)
set_option maxRecDepth 20000 in
theorem B513_8 {SC : List Value} {d s : Nat} {h : re_H} {Q : Nat → Value → re_H → Prop} {a0 : Nat} {xs0 : Int32} {xs1 : Int32}
    (K : wp SC 513 d s 15 [(0, .ref a0), (2, .int (xs1 &&& xs0)), (3, .int (i32 0)), (4, .int (i32 0))] [] h Q) : wp SC 513 d s 8 [(0, .ref a0)] [.int xs0, .int xs1] h Q := by
  refine wp_run 6 (pc' := 15) (lv' := [(4, .int (i32 0)), (3, .int (i32 0)), (2, .int (xs1 &&& xs0)), (0, .ref a0)]) (st' := []) rfl ?_
  exact wp_weak (re_sb_at rfl (re_sb_at rfl (re_sb_at rfl (re_sb_at rfl (re_sb_nil _))))) K
set_option maxRecDepth 20000 in
theorem B513_15 {SC : List Value} {d s : Nat} {h : re_H} {Q : Nat → Value → re_H → Prop} {a0 : Nat} {x2 : Int32} {x3 : Int32} {x4 : Int32}
    (K1 : ¬ x4 < (i32 12) → wp SC 513 d s 127 [(3, .int x3)] [] h Q) (K2 : x4 < (i32 12) → wp SC 513 d s 22 [(0, .ref a0), (2, .int x2), (3, .int x3), (4, .int x4)] [] h Q) : wp SC 513 d s 15 [(0, .ref a0), (2, .int x2), (3, .int x3), (4, .int x4)] [] h Q := by
  refine wp_run 1 (pc' := 17) (lv' := [(0, .ref a0), (2, .int x2), (3, .int x3), (4, .int x4)]) (st' := [.int x4]) rfl ?_
  refine wp_bi (x := (i32 12)) ⟨rfl, rfl⟩ (by decide) ?_
  exact wp_cmp ⟨rfl, rfl⟩ rfl (fun hc => wp_weak (re_sb_at rfl (re_sb_nil _)) (K1 (ic1_ge hc))) (fun hc => wp_weak (re_sb_at rfl (re_sb_at rfl (re_sb_at rfl (re_sb_at rfl (re_sb_nil _))))) (K2 (ic0_ge hc)))
set_option maxRecDepth 20000 in
theorem B513_22 {SC : List Value} {d s : Nat} {h : re_H} {Q : Nat → Value → re_H → Prop} {a0 : Nat} {x2 : Int32} {x3 : Int32} {x4 : Int32}
    (K1 : x2 = 0 → wp SC 513 d s 127 [(3, .int x3)] [] h Q) (K2 : ¬ x2 = 0 → wp SC 513 d s 26 [(0, .ref a0), (2, .int x2), (3, .int x3), (4, .int x4)] [] h Q) : wp SC 513 d s 22 [(0, .ref a0), (2, .int x2), (3, .int x3), (4, .int x4)] [] h Q := by
  refine wp_run 1 (pc' := 23) (lv' := [(0, .ref a0), (2, .int x2), (3, .int x3), (4, .int x4)]) (st' := [.int x2]) rfl ?_
  exact wp_if ⟨rfl, rfl⟩ rfl (fun hc => wp_weak (re_sb_at rfl (re_sb_nil _)) (K1 (ic1_eq hc))) (fun hc => wp_weak (re_sb_at rfl (re_sb_at rfl (re_sb_at rfl (re_sb_at rfl (re_sb_nil _))))) (K2 (ic0_eq hc)))
set_option maxRecDepth 20000 in
theorem B513_26 {SC : List Value} {d s : Nat} {h : re_H} {Q : Nat → Value → re_H → Prop} {a0 : Nat} {x2 : Int32} {x3 : Int32} {x4 : Int32}
    (K : wp SC 513 d s 29 [(0, .ref a0), (2, .int x2), (3, .int x3), (4, .int x4), (5, .int (i32 0))] [] h Q) : wp SC 513 d s 26 [(0, .ref a0), (2, .int x2), (3, .int x3), (4, .int x4)] [] h Q := by
  refine wp_run 2 (pc' := 29) (lv' := [(5, .int (i32 0)), (0, .ref a0), (2, .int x2), (3, .int x3), (4, .int x4)]) (st' := []) rfl ?_
  exact wp_weak (re_sb_at rfl (re_sb_at rfl (re_sb_at rfl (re_sb_at rfl (re_sb_at rfl (re_sb_nil _)))))) K
set_option maxRecDepth 20000 in
theorem B513_29 {SC : List Value} {d s : Nat} {h : re_H} {Q : Nat → Value → re_H → Prop} {a0 : Nat} {x2 : Int32} {x3 : Int32} {x4 : Int32} {x5 : Int32}
    (K1 : ¬ x5 < (i32 12) → wp SC 513 d s 121 [(0, .ref a0), (2, .int x2), (3, .int x3), (4, .int x4)] [] h Q) (K2 : x5 < (i32 12) → wp SC 513 d s 36 [(0, .ref a0), (2, .int x2), (3, .int x3), (4, .int x4), (5, .int x5)] [] h Q) : wp SC 513 d s 29 [(0, .ref a0), (2, .int x2), (3, .int x3), (4, .int x4), (5, .int x5)] [] h Q := by
  refine wp_run 1 (pc' := 31) (lv' := [(0, .ref a0), (2, .int x2), (3, .int x3), (4, .int x4), (5, .int x5)]) (st' := [.int x5]) rfl ?_
  refine wp_bi (x := (i32 12)) ⟨rfl, rfl⟩ (by decide) ?_
  exact wp_cmp ⟨rfl, rfl⟩ rfl (fun hc => wp_weak (re_sb_at rfl (re_sb_at rfl (re_sb_at rfl (re_sb_at rfl (re_sb_nil _))))) (K1 (ic1_ge hc))) (fun hc => wp_weak (re_sb_at rfl (re_sb_at rfl (re_sb_at rfl (re_sb_at rfl (re_sb_at rfl (re_sb_nil _)))))) (K2 (ic0_ge hc)))
set_option maxRecDepth 20000 in
theorem B513_36 {SC : List Value} {d s : Nat} {h : re_H} {Q : Nat → Value → re_H → Prop} {a0 : Nat} {x2 : Int32} {x3 : Int32} {x4 : Int32} {x5 : Int32}
    {ae1 : Nat} (e2 : nb_fd h a0 8 1 (.ref ae1)) {ae3 : Nat} (e4 : nb_fd h ae1 3 6 (.ref ae3)) {xe5 : Int32} (e6 : nb_ar h ae3 100 x5 (.int xe5)) (K1 : ¬ xe5 = 0 → wp SC 513 d s 68 [(0, .ref a0), (2, .int x2), (3, .int x3), (4, .int x4), (5, .int x5)] [] h Q) (K2 : xe5 = 0 → wp SC 513 d s 49 [(0, .ref a0), (2, .int x2), (3, .int x3), (4, .int x4), (5, .int x5)] [] h Q) : wp SC 513 d s 36 [(0, .ref a0), (2, .int x2), (3, .int x3), (4, .int x4), (5, .int x5)] [] h Q := by
  refine wp_run 1 (pc' := 37) (lv' := [(0, .ref a0), (2, .int x2), (3, .int x3), (4, .int x4), (5, .int x5)]) (st' := [.ref a0]) rfl ?_
  obtain ⟨w2, e2a, e2b⟩ := e2
  refine wp_gf ⟨rfl, rfl⟩ rfl e2a e2b ?_
  obtain ⟨w4, e4a, e4b⟩ := e4
  refine wp_gf ⟨rfl, rfl⟩ rfl e4a e4b ?_
  refine wp_run 1 (pc' := 45) (lv' := [(0, .ref a0), (2, .int x2), (3, .int x3), (4, .int x4), (5, .int x5)]) (st' := [.int x5, .ref ae3]) rfl ?_
  obtain ⟨w6, i6, e6a, e6x, e6i, e6v⟩ := e6
  refine wp_ial ⟨rfl, rfl⟩ e6a rfl e6x e6i e6v ?_
  exact wp_if ⟨rfl, rfl⟩ rfl (fun hc => wp_weak (re_sb_at rfl (re_sb_at rfl (re_sb_at rfl (re_sb_at rfl (re_sb_at rfl (re_sb_nil _)))))) (K1 (ic1_ne hc))) (fun hc => wp_weak (re_sb_at rfl (re_sb_at rfl (re_sb_at rfl (re_sb_at rfl (re_sb_at rfl (re_sb_nil _)))))) (K2 (ic0_ne hc)))
set_option maxRecDepth 20000 in
theorem B513_49 {SC : List Value} {d s : Nat} {h : re_H} {Q : Nat → Value → re_H → Prop} {a0 : Nat} {x2 : Int32} {x3 : Int32} {x4 : Int32} {x5 : Int32}
    {ae1 : Nat} (e2 : nb_fd h a0 8 1 (.ref ae1)) {ae3 : Nat} (e4 : nb_fd h ae1 3 4 (.ref ae3)) {xe5 : Int32} (e6 : nb_ar h ae3 100 x5 (.int xe5)) (K1 : (xe5 &&& x2) = 0 → wp SC 513 d s 68 [(0, .ref a0), (2, .int x2), (3, .int x3), (4, .int x4), (5, .int x5)] [] h Q) (K2 : ¬ (xe5 &&& x2) = 0 → wp SC 513 d s 64 [(0, .ref a0), (2, .int x2), (3, .int x3), (4, .int x4), (5, .int x5)] [] h Q) : wp SC 513 d s 49 [(0, .ref a0), (2, .int x2), (3, .int x3), (4, .int x4), (5, .int x5)] [] h Q := by
  refine wp_run 1 (pc' := 50) (lv' := [(0, .ref a0), (2, .int x2), (3, .int x3), (4, .int x4), (5, .int x5)]) (st' := [.ref a0]) rfl ?_
  obtain ⟨w2, e2a, e2b⟩ := e2
  refine wp_gf ⟨rfl, rfl⟩ rfl e2a e2b ?_
  obtain ⟨w4, e4a, e4b⟩ := e4
  refine wp_gf ⟨rfl, rfl⟩ rfl e4a e4b ?_
  refine wp_run 1 (pc' := 58) (lv' := [(0, .ref a0), (2, .int x2), (3, .int x3), (4, .int x4), (5, .int x5)]) (st' := [.int x5, .ref ae3]) rfl ?_
  obtain ⟨w6, i6, e6a, e6x, e6i, e6v⟩ := e6
  refine wp_ial ⟨rfl, rfl⟩ e6a rfl e6x e6i e6v ?_
  refine wp_run 2 (pc' := 61) (lv' := [(0, .ref a0), (2, .int x2), (3, .int x3), (4, .int x4), (5, .int x5)]) (st' := [.int (xe5 &&& x2)]) rfl ?_
  exact wp_if ⟨rfl, rfl⟩ rfl (fun hc => wp_weak (re_sb_at rfl (re_sb_at rfl (re_sb_at rfl (re_sb_at rfl (re_sb_at rfl (re_sb_nil _)))))) (K1 (ic1_eq hc))) (fun hc => wp_weak (re_sb_at rfl (re_sb_at rfl (re_sb_at rfl (re_sb_at rfl (re_sb_at rfl (re_sb_nil _)))))) (K2 (ic0_eq hc)))
set_option maxRecDepth 20000 in
theorem B513_64 {SC : List Value} {d s : Nat} {h : re_H} {Q : Nat → Value → re_H → Prop} {a0 : Nat} {x2 : Int32} {x3 : Int32} {x4 : Int32} {x5 : Int32}
    (K : wp SC 513 d s 69 [(0, .ref a0), (2, .int x2), (3, .int x3), (4, .int x4), (5, .int x5)] [.int (i32 1)] h Q) : wp SC 513 d s 64 [(0, .ref a0), (2, .int x2), (3, .int x3), (4, .int x4), (5, .int x5)] [] h Q := by
  refine wp_run 2 (pc' := 69) (lv' := [(0, .ref a0), (2, .int x2), (3, .int x3), (4, .int x4), (5, .int x5)]) (st' := [.int (i32 1)]) rfl ?_
  exact wp_weak (re_sb_at rfl (re_sb_at rfl (re_sb_at rfl (re_sb_at rfl (re_sb_at rfl (re_sb_nil _)))))) K
set_option maxRecDepth 20000 in
theorem B513_68 {SC : List Value} {d s : Nat} {h : re_H} {Q : Nat → Value → re_H → Prop} {a0 : Nat} {x2 : Int32} {x3 : Int32} {x4 : Int32} {x5 : Int32}
    (K : wp SC 513 d s 69 [(0, .ref a0), (2, .int x2), (3, .int x3), (4, .int x4), (5, .int x5)] [.int (i32 0)] h Q) : wp SC 513 d s 68 [(0, .ref a0), (2, .int x2), (3, .int x3), (4, .int x4), (5, .int x5)] [] h Q := by
  refine wp_run 1 (pc' := 69) (lv' := [(0, .ref a0), (2, .int x2), (3, .int x3), (4, .int x4), (5, .int x5)]) (st' := [.int (i32 0)]) rfl ?_
  exact wp_weak (re_sb_at rfl (re_sb_at rfl (re_sb_at rfl (re_sb_at rfl (re_sb_at rfl (re_sb_nil _)))))) K
set_option maxRecDepth 20000 in
theorem B513_69 {SC : List Value} {d s : Nat} {h : re_H} {Q : Nat → Value → re_H → Prop} {a0 : Nat} {x2 : Int32} {x3 : Int32} {x4 : Int32} {x5 : Int32} {xs0 : Int32}
    (K1 : ((x2 >>> (x5 &&& 31)) &&& (i32 1)) = 0 → wp SC 513 d s 115 [(0, .ref a0), (2, .int x2), (3, .int x3), (4, .int x4), (5, .int x5)] [] h Q) (K2 : ¬ ((x2 >>> (x5 &&& 31)) &&& (i32 1)) = 0 → wp SC 513 d s 80 [(0, .ref a0), (2, .int x2), (3, .int x3), (4, .int x4), (5, .int x5), (6, .int xs0)] [] h Q) : wp SC 513 d s 69 [(0, .ref a0), (2, .int x2), (3, .int x3), (4, .int x4), (5, .int x5)] [.int xs0] h Q := by
  refine wp_run 6 (pc' := 77) (lv' := [(6, .int xs0), (0, .ref a0), (2, .int x2), (3, .int x3), (4, .int x4), (5, .int x5)]) (st' := [.int ((x2 >>> (x5 &&& 31)) &&& (i32 1))]) rfl ?_
  exact wp_if ⟨rfl, rfl⟩ rfl (fun hc => wp_weak (re_sb_at rfl (re_sb_at rfl (re_sb_at rfl (re_sb_at rfl (re_sb_at rfl (re_sb_nil _)))))) (K1 (ic1_eq hc))) (fun hc => wp_weak (re_sb_at rfl (re_sb_at rfl (re_sb_at rfl (re_sb_at rfl (re_sb_at rfl (re_sb_at rfl (re_sb_nil _))))))) (K2 (ic0_eq hc)))
set_option maxRecDepth 20000 in
theorem B513_80 {SC : List Value} {d s : Nat} {h : re_H} {Q : Nat → Value → re_H → Prop} {a0 : Nat} {x2 : Int32} {x3 : Int32} {x4 : Int32} {x5 : Int32} {x6 : Int32}
    (K1 : x6 = 0 → wp SC 513 d s 88 [(0, .ref a0), (2, .int x2), (3, .int x3), (4, .int x4), (5, .int x5)] [] h Q) (K2 : ¬ x6 = 0 → wp SC 513 d s 85 [(0, .ref a0), (2, .int x2), (3, .int x3), (4, .int x4), (5, .int x5)] [] h Q) : wp SC 513 d s 80 [(0, .ref a0), (2, .int x2), (3, .int x3), (4, .int x4), (5, .int x5), (6, .int x6)] [] h Q := by
  refine wp_run 1 (pc' := 82) (lv' := [(0, .ref a0), (2, .int x2), (3, .int x3), (4, .int x4), (5, .int x5), (6, .int x6)]) (st' := [.int x6]) rfl ?_
  exact wp_if ⟨rfl, rfl⟩ rfl (fun hc => wp_weak (re_sb_at rfl (re_sb_at rfl (re_sb_at rfl (re_sb_at rfl (re_sb_at rfl (re_sb_nil _)))))) (K1 (ic1_eq hc))) (fun hc => wp_weak (re_sb_at rfl (re_sb_at rfl (re_sb_at rfl (re_sb_at rfl (re_sb_at rfl (re_sb_nil _)))))) (K2 (ic0_eq hc)))
set_option maxRecDepth 20000 in
theorem B513_85 {SC : List Value} {d s : Nat} {h : re_H} {Q : Nat → Value → re_H → Prop} {a0 : Nat} {x2 : Int32} {x3 : Int32} {x4 : Int32} {x5 : Int32}
    (K : wp SC 513 d s 115 [(0, .ref a0), (2, .int x2), (3, .int x3), (4, .int x4), (5, .int x5)] [] h Q) : wp SC 513 d s 85 [(0, .ref a0), (2, .int x2), (3, .int x3), (4, .int x4), (5, .int x5)] [] h Q := by
  refine wp_run 1 (pc' := 115) (lv' := [(0, .ref a0), (2, .int x2), (3, .int x3), (4, .int x4), (5, .int x5)]) (st' := []) rfl ?_
  exact wp_weak (re_sb_at rfl (re_sb_at rfl (re_sb_at rfl (re_sb_at rfl (re_sb_at rfl (re_sb_nil _)))))) K
set_option maxRecDepth 20000 in
theorem B513_88 {SC : List Value} {d s : Nat} {h : re_H} {Q : Nat → Value → re_H → Prop} {a0 : Nat} {x2 : Int32} {x3 : Int32} {x4 : Int32} {x5 : Int32}
    {c : Nat} {w : List Value} (eg : re_hg h a0 = some (c, w)) (ec : c = 8) (K : wp SC 514 d 0 0 [(0, .ref a0), (1, .int x5)] [] h (wp_ret SC 513 (d + 1) s 103 [(0, .ref a0), (2, .int (x2 &&& (((i32 1) <<< (x5 &&& 31)) ^^^ (-1)))), (3, .int x3), (4, .int x4), (5, .int x5)] [] Q)) : wp SC 513 (d + 1) s 88 [(0, .ref a0), (2, .int x2), (3, .int x3), (4, .int x4), (5, .int x5)] [] h Q := by
  refine wp_run 10 (pc' := 100) (lv' := [(2, .int (x2 &&& (((i32 1) <<< (x5 &&& 31)) ^^^ (-1)))), (0, .ref a0), (3, .int x3), (4, .int x4), (5, .int x5)]) (st' := [.int x5, .ref a0]) rfl ?_
  have eA : lv_args 0 (.ref a0 :: [.int x5].reverse) = [(0, .ref a0), (1, .int x5)] := by simp [lv_args, vc_i, vc_l, vc_r, vc_n, vc_a]
  refine wp_callV (ar := [.int x5]) (rest := []) (s1 := 0) (s2 := s) (d' := d) ⟨rfl, rfl⟩ rfl (Or.inl rfl)  (by simp [re_cat, vc_i, vc_l, vc_r, vc_n, vc_a]) (by rw [show re_cat (.ref a0 :: [.int x5].reverse) = 2 from by simp [re_cat, vc_i, vc_l, vc_r, vc_n, vc_a]]; decide) (by decide) rfl eg ec rfl (Nat.le_of_eq (Nat.zero_add s)) ?_
  rw [eA]
  exact wp_mono K (fun k v h' z => wp_ret_weak (re_sb_at rfl (re_sb_at rfl (re_sb_at rfl (re_sb_at rfl (re_sb_at rfl (re_sb_nil _)))))) z)
set_option maxRecDepth 20000 in
theorem B513_103 {SC : List Value} {d s : Nat} {h : re_H} {Q : Nat → Value → re_H → Prop} {a0 : Nat} {x2 : Int32} {x3 : Int32} {x4 : Int32} {x5 : Int32} {xs0 : Int32}
    (K1 : xs0 = 0 → wp SC 513 d s 115 [(0, .ref a0), (2, .int x2), (3, .int x3), (4, .int x4), (5, .int x5)] [] h Q) (K2 : ¬ xs0 = 0 → wp SC 513 d s 106 [(0, .ref a0), (2, .int x2), (3, .int x3), (4, .int x4), (5, .int x5)] [] h Q) : wp SC 513 d s 103 [(0, .ref a0), (2, .int x2), (3, .int x3), (4, .int x4), (5, .int x5)] [.int xs0] h Q := by
  exact wp_if ⟨rfl, rfl⟩ rfl (fun hc => wp_weak (re_sb_at rfl (re_sb_at rfl (re_sb_at rfl (re_sb_at rfl (re_sb_at rfl (re_sb_nil _)))))) (K1 (ic1_eq hc))) (fun hc => wp_weak (re_sb_at rfl (re_sb_at rfl (re_sb_at rfl (re_sb_at rfl (re_sb_at rfl (re_sb_nil _)))))) (K2 (ic0_eq hc)))
set_option maxRecDepth 20000 in
theorem B513_106 {SC : List Value} {d s : Nat} {h : re_H} {Q : Nat → Value → re_H → Prop} {a0 : Nat} {x2 : Int32} {x3 : Int32} {x4 : Int32} {x5 : Int32}
    {c : Nat} {w : List Value} (eg : re_hg h a0 = some (c, w)) (ec : c = 8) (K : wp SC 519 d 0 0 [(0, .ref a0), (1, .int x5)] [] h (wp_ret SC 513 (d + 1) s 113 [(0, .ref a0), (2, .int x2), (4, .int x4), (5, .int x5)] [.int x3] Q)) : wp SC 513 (d + 1) s 106 [(0, .ref a0), (2, .int x2), (3, .int x3), (4, .int x4), (5, .int x5)] [] h Q := by
  refine wp_run 3 (pc' := 110) (lv' := [(0, .ref a0), (2, .int x2), (3, .int x3), (4, .int x4), (5, .int x5)]) (st' := [.int x5, .ref a0, .int x3]) rfl ?_
  have eA : lv_args 0 (.ref a0 :: [.int x5].reverse) = [(0, .ref a0), (1, .int x5)] := by simp [lv_args, vc_i, vc_l, vc_r, vc_n, vc_a]
  refine wp_callV (ar := [.int x5]) (rest := [.int x3]) (s1 := 0) (s2 := s) (d' := d) ⟨rfl, rfl⟩ rfl (Or.inl rfl)  (by simp [re_cat, vc_i, vc_l, vc_r, vc_n, vc_a]) (by rw [show re_cat (.ref a0 :: [.int x5].reverse) = 2 from by simp [re_cat, vc_i, vc_l, vc_r, vc_n, vc_a]]; decide) (by decide) rfl eg ec rfl (Nat.le_of_eq (Nat.zero_add s)) ?_
  rw [eA]
  exact wp_mono K (fun k v h' z => wp_ret_weak (re_sb_at rfl (re_sb_at rfl (re_sb_at rfl (re_sb_at rfl (re_sb_nil _))))) z)
set_option maxRecDepth 20000 in
theorem B513_113 {SC : List Value} {d s : Nat} {h : re_H} {Q : Nat → Value → re_H → Prop} {a0 : Nat} {x2 : Int32} {x4 : Int32} {x5 : Int32} {xs0 : Int32} {xs1 : Int32}
    (K : wp SC 513 d s 115 [(0, .ref a0), (2, .int x2), (3, .int (xs1 + xs0)), (4, .int x4), (5, .int x5)] [] h Q) : wp SC 513 d s 113 [(0, .ref a0), (2, .int x2), (4, .int x4), (5, .int x5)] [.int xs0, .int xs1] h Q := by
  refine wp_run 2 (pc' := 115) (lv' := [(3, .int (xs1 + xs0)), (0, .ref a0), (2, .int x2), (4, .int x4), (5, .int x5)]) (st' := []) rfl ?_
  exact wp_weak (re_sb_at rfl (re_sb_at rfl (re_sb_at rfl (re_sb_at rfl (re_sb_at rfl (re_sb_nil _)))))) K
set_option maxRecDepth 20000 in
theorem B513_115 {SC : List Value} {d s : Nat} {h : re_H} {Q : Nat → Value → re_H → Prop} {a0 : Nat} {x2 : Int32} {x3 : Int32} {x4 : Int32} {x5 : Int32}
    (K : wp SC 513 d s 29 [(0, .ref a0), (2, .int x2), (3, .int x3), (4, .int x4), (5, .int (x5 + (i32 1)))] [] h Q) : wp SC 513 d s 115 [(0, .ref a0), (2, .int x2), (3, .int x3), (4, .int x4), (5, .int x5)] [] h Q := by
  refine wp_run 2 (pc' := 29) (lv' := [(5, .int (x5 + (i32 1))), (0, .ref a0), (2, .int x2), (3, .int x3), (4, .int x4)]) (st' := []) rfl ?_
  exact wp_weak (re_sb_at rfl (re_sb_at rfl (re_sb_at rfl (re_sb_at rfl (re_sb_at rfl (re_sb_nil _)))))) K
set_option maxRecDepth 20000 in
theorem B513_121 {SC : List Value} {d s : Nat} {h : re_H} {Q : Nat → Value → re_H → Prop} {a0 : Nat} {x2 : Int32} {x3 : Int32} {x4 : Int32}
    (K : wp SC 513 d s 15 [(0, .ref a0), (2, .int x2), (3, .int x3), (4, .int (x4 + (i32 1)))] [] h Q) : wp SC 513 d s 121 [(0, .ref a0), (2, .int x2), (3, .int x3), (4, .int x4)] [] h Q := by
  refine wp_run 2 (pc' := 15) (lv' := [(4, .int (x4 + (i32 1))), (0, .ref a0), (2, .int x2), (3, .int x3)]) (st' := []) rfl ?_
  exact wp_weak (re_sb_at rfl (re_sb_at rfl (re_sb_at rfl (re_sb_at rfl (re_sb_nil _))))) K
set_option maxRecDepth 20000 in
theorem B513_127 {SC : List Value} {d s : Nat} {h : re_H} {Q : Nat → Value → re_H → Prop} {x3 : Int32}
    (K : Q 1 (.int x3) h) : wp SC 513 d s 127 [(3, .int x3)] [] h Q := by
  refine wp_run 1 (pc' := 128) (lv' := [(3, .int x3)]) (st' := [.int x3]) rfl ?_
  exact wp_reti ⟨rfl, rfl⟩ rfl K
set_option maxRecDepth 20000 in
theorem B514_0 {SC : List Value} {d s : Nat} {h : re_H} {Q : Nat → Value → re_H → Prop} {a0 : Nat} {x1 : Int32}
    {c : Nat} {w : List Value} (eg : re_hg h a0 = some (c, w)) (ec : c = 8) (K : wp SC 515 d 0 0 [(0, .ref a0), (1, .int x1)] [] h (wp_ret SC 514 (d + 1) s 5 [(0, .ref a0), (1, .int x1)] [] Q)) : wp SC 514 (d + 1) s 0 [(0, .ref a0), (1, .int x1)] [] h Q := by
  refine wp_run 2 (pc' := 2) (lv' := [(0, .ref a0), (1, .int x1)]) (st' := [.int x1, .ref a0]) rfl ?_
  have eA : lv_args 0 (.ref a0 :: [.int x1].reverse) = [(0, .ref a0), (1, .int x1)] := by simp [lv_args, vc_i, vc_l, vc_r, vc_n, vc_a]
  refine wp_callV (ar := [.int x1]) (rest := []) (s1 := 0) (s2 := s) (d' := d) ⟨rfl, rfl⟩ rfl (Or.inl rfl)  (by simp [re_cat, vc_i, vc_l, vc_r, vc_n, vc_a]) (by rw [show re_cat (.ref a0 :: [.int x1].reverse) = 2 from by simp [re_cat, vc_i, vc_l, vc_r, vc_n, vc_a]]; decide) (by decide) rfl eg ec rfl (Nat.le_of_eq (Nat.zero_add s)) ?_
  rw [eA]
  exact wp_mono K (fun k v h' z => wp_ret_weak (re_sb_at rfl (re_sb_at rfl (re_sb_nil _))) z)
set_option maxRecDepth 20000 in
theorem B514_5 {SC : List Value} {d s : Nat} {h : re_H} {Q : Nat → Value → re_H → Prop} {a0 : Nat} {x1 : Int32} {as0 : Nat}
    {ae1 : Nat} (e2 : nb_fd h a0 8 1 (.ref ae1)) {ae3 : Nat} (e4 : nb_fd h ae1 3 6 (.ref ae3)) {xe5 : Int32} (e6 : nb_ar h ae3 100 x1 (.int xe5)) (K1 : xe5 = 0 → wp SC 514 d s 40 [(0, .ref a0), (1, .int x1), (2, .ref as0)] [] h Q) (K2 : ¬ xe5 = 0 → wp SC 514 d s 18 [(0, .ref a0), (1, .int x1), (2, .ref as0)] [] h Q) : wp SC 514 d s 5 [(0, .ref a0), (1, .int x1)] [.ref as0] h Q := by
  refine wp_run 2 (pc' := 7) (lv' := [(2, .ref as0), (0, .ref a0), (1, .int x1)]) (st' := [.ref a0]) rfl ?_
  obtain ⟨w2, e2a, e2b⟩ := e2
  refine wp_gf ⟨rfl, rfl⟩ rfl e2a e2b ?_
  obtain ⟨w4, e4a, e4b⟩ := e4
  refine wp_gf ⟨rfl, rfl⟩ rfl e4a e4b ?_
  refine wp_run 1 (pc' := 14) (lv' := [(2, .ref as0), (0, .ref a0), (1, .int x1)]) (st' := [.int x1, .ref ae3]) rfl ?_
  obtain ⟨w6, i6, e6a, e6x, e6i, e6v⟩ := e6
  refine wp_ial ⟨rfl, rfl⟩ e6a rfl e6x e6i e6v ?_
  exact wp_if ⟨rfl, rfl⟩ rfl (fun hc => wp_weak (re_sb_at rfl (re_sb_at rfl (re_sb_at rfl (re_sb_nil _)))) (K1 (ic1_eq hc))) (fun hc => wp_weak (re_sb_at rfl (re_sb_at rfl (re_sb_at rfl (re_sb_nil _)))) (K2 (ic0_eq hc)))
set_option maxRecDepth 20000 in
theorem B514_18 {SC : List Value} {d s : Nat} {h : re_H} {Q : Nat → Value → re_H → Prop} {a0 : Nat} {x1 : Int32} {a2 : Nat}
    {xe1 : Int32} (e2 : nb_fd h a2 5 0 (.int xe1)) {ae3 : Nat} (e4 : nb_fd h a0 8 1 (.ref ae3)) {ae5 : Nat} (e6 : nb_fd h ae3 3 6 (.ref ae5)) {xe7 : Int32} (e8 : nb_ar h ae5 100 x1 (.int xe7)) (K1 : xe1 = xe7 → wp SC 514 d s 38 [] [] h Q) (K2 : ¬ xe1 = xe7 → wp SC 514 d s 34 [] [] h Q) : wp SC 514 d s 18 [(0, .ref a0), (1, .int x1), (2, .ref a2)] [] h Q := by
  refine wp_run 1 (pc' := 19) (lv' := [(0, .ref a0), (1, .int x1), (2, .ref a2)]) (st' := [.ref a2]) rfl ?_
  obtain ⟨w2, e2a, e2b⟩ := e2
  refine wp_gf ⟨rfl, rfl⟩ rfl e2a e2b ?_
  refine wp_run 1 (pc' := 23) (lv' := [(0, .ref a0), (1, .int x1), (2, .ref a2)]) (st' := [.ref a0, .int xe1]) rfl ?_
  obtain ⟨w4, e4a, e4b⟩ := e4
  refine wp_gf ⟨rfl, rfl⟩ rfl e4a e4b ?_
  obtain ⟨w6, e6a, e6b⟩ := e6
  refine wp_gf ⟨rfl, rfl⟩ rfl e6a e6b ?_
  refine wp_run 1 (pc' := 30) (lv' := [(0, .ref a0), (1, .int x1), (2, .ref a2)]) (st' := [.int x1, .ref ae5, .int xe1]) rfl ?_
  obtain ⟨w8, i8, e8a, e8x, e8i, e8v⟩ := e8
  refine wp_ial ⟨rfl, rfl⟩ e8a rfl e8x e8i e8v ?_
  exact wp_cmp ⟨rfl, rfl⟩ rfl (fun hc => wp_weak (re_sb_nil _) (K1 (ic1_eq hc))) (fun hc => wp_weak (re_sb_nil _) (K2 (ic0_eq hc)))
set_option maxRecDepth 20000 in
theorem B514_34 {SC : List Value} {d s : Nat} {h : re_H} {Q : Nat → Value → re_H → Prop} 
    (K : wp SC 514 d s 39 [] [.int (i32 1)] h Q) : wp SC 514 d s 34 [] [] h Q := by
  refine wp_run 2 (pc' := 39) (lv' := []) (st' := [.int (i32 1)]) rfl ?_
  exact wp_weak (re_sb_nil _) K
set_option maxRecDepth 20000 in
theorem B514_38 {SC : List Value} {d s : Nat} {h : re_H} {Q : Nat → Value → re_H → Prop} 
    (K : wp SC 514 d s 39 [] [.int (i32 0)] h Q) : wp SC 514 d s 38 [] [] h Q := by
  refine wp_run 1 (pc' := 39) (lv' := []) (st' := [.int (i32 0)]) rfl ?_
  exact wp_weak (re_sb_nil _) K
set_option maxRecDepth 20000 in
theorem B514_39 {SC : List Value} {d s : Nat} {h : re_H} {Q : Nat → Value → re_H → Prop} {xs0 : Int32}
    (hz : xs0 = 0 ∨ xs0 = 1) (K : Q 1 (.int xs0) h) : wp SC 514 d s 39 [] [.int xs0] h Q := by
  exact wp_retz ⟨rfl, rfl⟩ rfl hz K
set_option maxRecDepth 20000 in
theorem B514_40 {SC : List Value} {d s : Nat} {h : re_H} {Q : Nat → Value → re_H → Prop} {a0 : Nat} {x1 : Int32} {a2 : Nat}
    {xe1 : Int32} (e2 : nb_fd h a2 5 0 (.int xe1)) (K1 : xe1 = (-1) → wp SC 514 d s 64 [] [] h Q) (K2 : ¬ xe1 = (-1) → wp SC 514 d s 48 [(0, .ref a0), (1, .int x1), (2, .ref a2)] [] h Q) : wp SC 514 d s 40 [(0, .ref a0), (1, .int x1), (2, .ref a2)] [] h Q := by
  refine wp_run 1 (pc' := 41) (lv' := [(0, .ref a0), (1, .int x1), (2, .ref a2)]) (st' := [.ref a2]) rfl ?_
  obtain ⟨w2, e2a, e2b⟩ := e2
  refine wp_gf ⟨rfl, rfl⟩ rfl e2a e2b ?_
  refine wp_run 1 (pc' := 45) (lv' := [(0, .ref a0), (1, .int x1), (2, .ref a2)]) (st' := [.int (-1), .int xe1]) rfl ?_
  exact wp_cmp ⟨rfl, rfl⟩ rfl (fun hc => wp_weak (re_sb_nil _) (K1 (ic1_eq hc))) (fun hc => wp_weak (re_sb_at rfl (re_sb_at rfl (re_sb_at rfl (re_sb_nil _)))) (K2 (ic0_eq hc)))
set_option maxRecDepth 20000 in
theorem B514_48 {SC : List Value} {d s : Nat} {h : re_H} {Q : Nat → Value → re_H → Prop} {a0 : Nat} {x1 : Int32} {a2 : Nat}
    {xe1 : Int32} (e2 : nb_fd h a2 5 0 (.int xe1)) (K1 : xe1 < (i32 1) → wp SC 514 d s 66 [(0, .ref a0), (1, .int x1), (2, .ref a2)] [] h Q) (K2 : ¬ xe1 < (i32 1) → wp SC 514 d s 56 [(0, .ref a0), (1, .int x1), (2, .ref a2)] [] h Q) : wp SC 514 d s 48 [(0, .ref a0), (1, .int x1), (2, .ref a2)] [] h Q := by
  refine wp_run 1 (pc' := 49) (lv' := [(0, .ref a0), (1, .int x1), (2, .ref a2)]) (st' := [.ref a2]) rfl ?_
  obtain ⟨w2, e2a, e2b⟩ := e2
  refine wp_gf ⟨rfl, rfl⟩ rfl e2a e2b ?_
  refine wp_run 1 (pc' := 53) (lv' := [(0, .ref a0), (1, .int x1), (2, .ref a2)]) (st' := [.int (i32 1), .int xe1]) rfl ?_
  exact wp_cmp ⟨rfl, rfl⟩ rfl (fun hc => wp_weak (re_sb_at rfl (re_sb_at rfl (re_sb_at rfl (re_sb_nil _)))) (K1 (ic1_lt hc))) (fun hc => wp_weak (re_sb_at rfl (re_sb_at rfl (re_sb_at rfl (re_sb_nil _)))) (K2 (ic0_lt hc)))
set_option maxRecDepth 20000 in
theorem B514_56 {SC : List Value} {d s : Nat} {h : re_H} {Q : Nat → Value → re_H → Prop} {a0 : Nat} {x1 : Int32} {a2 : Nat}
    {xe1 : Int32} (e2 : nb_fd h a2 5 0 (.int xe1)) (K1 : (i32 3) < xe1 → wp SC 514 d s 66 [(0, .ref a0), (1, .int x1), (2, .ref a2)] [] h Q) (K2 : ¬ (i32 3) < xe1 → wp SC 514 d s 64 [] [] h Q) : wp SC 514 d s 56 [(0, .ref a0), (1, .int x1), (2, .ref a2)] [] h Q := by
  refine wp_run 1 (pc' := 57) (lv' := [(0, .ref a0), (1, .int x1), (2, .ref a2)]) (st' := [.ref a2]) rfl ?_
  obtain ⟨w2, e2a, e2b⟩ := e2
  refine wp_gf ⟨rfl, rfl⟩ rfl e2a e2b ?_
  refine wp_run 1 (pc' := 61) (lv' := [(0, .ref a0), (1, .int x1), (2, .ref a2)]) (st' := [.int (i32 3), .int xe1]) rfl ?_
  exact wp_cmp ⟨rfl, rfl⟩ rfl (fun hc => wp_weak (re_sb_at rfl (re_sb_at rfl (re_sb_at rfl (re_sb_nil _)))) (K1 (ic1_gt hc))) (fun hc => wp_weak (re_sb_nil _) (K2 (ic0_gt hc)))
set_option maxRecDepth 20000 in
theorem B514_64 {SC : List Value} {d s : Nat} {h : re_H} {Q : Nat → Value → re_H → Prop} 
    (K : Q 1 (.int (i32 1)) h) : wp SC 514 d s 64 [] [] h Q := by
  refine wp_run 1 (pc' := 65) (lv' := []) (st' := [.int (i32 1)]) rfl ?_
  exact wp_retz ⟨rfl, rfl⟩ rfl (Or.inr rfl) K
set_option maxRecDepth 20000 in
theorem B514_66 {SC : List Value} {d s : Nat} {h : re_H} {Q : Nat → Value → re_H → Prop} {a0 : Nat} {x1 : Int32} {a2 : Nat}
    {ae1 : Nat} (e2 : nb_fd h a0 8 0 (.ref ae1)) {ae3 : Nat} (e4 : nb_fd h ae1 1 1 (.ref ae3)) {ae5 : Nat} (e6 : nb_ar h ae3 104 x1 (.ref ae5)) {ae7 : Nat} (e8 : nb_fd h a0 8 2 (.ref ae7)) {ae9 : Nat} (e10 : nb_fd h ae7 7 1 (.ref ae9)) {c : Nat} {w : List Value} (eg : re_hg h a2 = some (c, w)) (ec : c = 5) (K : wp SC 321 d 0 0 [(0, .ref a2), (1, .ref ae5), (2, .ref ae9)] [] h (wp_ret SC 514 (d + 1) s 86 [(0, .ref a0), (1, .int x1), (2, .ref a2)] [] Q)) : wp SC 514 (d + 1) s 66 [(0, .ref a0), (1, .int x1), (2, .ref a2)] [] h Q := by
  refine wp_run 2 (pc' := 68) (lv' := [(0, .ref a0), (1, .int x1), (2, .ref a2)]) (st' := [.ref a0, .ref a2]) rfl ?_
  obtain ⟨w2, e2a, e2b⟩ := e2
  refine wp_gf ⟨rfl, rfl⟩ rfl e2a e2b ?_
  obtain ⟨w4, e4a, e4b⟩ := e4
  refine wp_gf ⟨rfl, rfl⟩ rfl e4a e4b ?_
  refine wp_run 1 (pc' := 75) (lv' := [(0, .ref a0), (1, .int x1), (2, .ref a2)]) (st' := [.int x1, .ref ae3, .ref a2]) rfl ?_
  obtain ⟨w6, i6, e6a, e6x, e6i, e6v⟩ := e6
  refine wp_aal ⟨rfl, rfl⟩ e6a ⟨by decide, by decide⟩ e6x e6i e6v ?_
  refine wp_run 1 (pc' := 77) (lv' := [(0, .ref a0), (1, .int x1), (2, .ref a2)]) (st' := [.ref a0, .ref ae5, .ref a2]) rfl ?_
  obtain ⟨w8, e8a, e8b⟩ := e8
  refine wp_gf ⟨rfl, rfl⟩ rfl e8a e8b ?_
  obtain ⟨w10, e10a, e10b⟩ := e10
  refine wp_gf ⟨rfl, rfl⟩ rfl e10a e10b ?_
  have eA : lv_args 0 (.ref a2 :: [.ref ae9, .ref ae5].reverse) = [(0, .ref a2), (1, .ref ae5), (2, .ref ae9)] := by simp [lv_args, vc_i, vc_l, vc_r, vc_n, vc_a]
  refine wp_callV (ar := [.ref ae9, .ref ae5]) (rest := []) (s1 := 0) (s2 := s) (d' := d) ⟨rfl, rfl⟩ rfl (Or.inl rfl)  (by simp [re_cat, vc_i, vc_l, vc_r, vc_n, vc_a]) (by rw [show re_cat (.ref a2 :: [.ref ae9, .ref ae5].reverse) = 3 from by simp [re_cat, vc_i, vc_l, vc_r, vc_n, vc_a]]; decide) (by decide) rfl eg ec rfl (Nat.le_of_eq (Nat.zero_add s)) ?_
  rw [eA]
  exact wp_mono K (fun k v h' z => wp_ret_weak (re_sb_at rfl (re_sb_at rfl (re_sb_at rfl (re_sb_nil _)))) z)
set_option maxRecDepth 20000 in
theorem B514_86 {SC : List Value} {d s : Nat} {h : re_H} {Q : Nat → Value → re_H → Prop} {a0 : Nat} {x1 : Int32} {a2 : Nat} {xs0 : Int32}
    (K1 : ¬ xs0 = 0 → wp SC 514 d s 91 [(0, .ref a0), (1, .int x1), (2, .ref a2)] [] h Q) (K2 : xs0 = 0 → wp SC 514 d s 89 [] [] h Q) : wp SC 514 d s 86 [(0, .ref a0), (1, .int x1), (2, .ref a2)] [.int xs0] h Q := by
  exact wp_if ⟨rfl, rfl⟩ rfl (fun hc => wp_weak (re_sb_at rfl (re_sb_at rfl (re_sb_at rfl (re_sb_nil _)))) (K1 (ic1_ne hc))) (fun hc => wp_weak (re_sb_nil _) (K2 (ic0_ne hc)))
set_option maxRecDepth 20000 in
theorem B514_89 {SC : List Value} {d s : Nat} {h : re_H} {Q : Nat → Value → re_H → Prop} 
    (K : Q 1 (.int (i32 1)) h) : wp SC 514 d s 89 [] [] h Q := by
  refine wp_run 1 (pc' := 90) (lv' := []) (st' := [.int (i32 1)]) rfl ?_
  exact wp_retz ⟨rfl, rfl⟩ rfl (Or.inr rfl) K
set_option maxRecDepth 20000 in
theorem B514_91 {SC : List Value} {d s : Nat} {h : re_H} {Q : Nat → Value → re_H → Prop} {a0 : Nat} {x1 : Int32} {a2 : Nat}
    (K : wp SC 514 d s 93 [(0, .ref a0), (1, .int x1), (2, .ref a2), (3, .int (i32 0))] [] h Q) : wp SC 514 d s 91 [(0, .ref a0), (1, .int x1), (2, .ref a2)] [] h Q := by
  refine wp_run 2 (pc' := 93) (lv' := [(3, .int (i32 0)), (0, .ref a0), (1, .int x1), (2, .ref a2)]) (st' := []) rfl ?_
  exact wp_weak (re_sb_at rfl (re_sb_at rfl (re_sb_at rfl (re_sb_at rfl (re_sb_nil _))))) K
set_option maxRecDepth 20000 in
theorem B514_93 {SC : List Value} {d s : Nat} {h : re_H} {Q : Nat → Value → re_H → Prop} {a0 : Nat} {x1 : Int32} {a2 : Nat} {x3 : Int32}
    (K1 : ¬ x3 < (i32 16) → wp SC 514 d s 155 [] [] h Q) (K2 : x3 < (i32 16) → wp SC 514 d s 99 [(0, .ref a0), (1, .int x1), (2, .ref a2), (3, .int x3)] [] h Q) : wp SC 514 d s 93 [(0, .ref a0), (1, .int x1), (2, .ref a2), (3, .int x3)] [] h Q := by
  refine wp_run 1 (pc' := 94) (lv' := [(0, .ref a0), (1, .int x1), (2, .ref a2), (3, .int x3)]) (st' := [.int x3]) rfl ?_
  refine wp_bi (x := (i32 16)) ⟨rfl, rfl⟩ (by decide) ?_
  exact wp_cmp ⟨rfl, rfl⟩ rfl (fun hc => wp_weak (re_sb_nil _) (K1 (ic1_ge hc))) (fun hc => wp_weak (re_sb_at rfl (re_sb_at rfl (re_sb_at rfl (re_sb_at rfl (re_sb_nil _))))) (K2 (ic0_ge hc)))
set_option maxRecDepth 20000 in
theorem B514_99 {SC : List Value} {d s : Nat} {h : re_H} {Q : Nat → Value → re_H → Prop} {a0 : Nat} {x1 : Int32} {a2 : Nat} {x3 : Int32}
    {ae1 : Nat} (e2 : nb_fd h a0 8 1 (.ref ae1)) {ae3 : Nat} (e4 : nb_fd h ae1 3 3 (.ref ae3)) {xe5 : Int32} (e6 : nb_ar h ae3 100 x1 (.int xe5)) (K1 : ¬ ((xe5 >>> (x3 &&& 31)) &&& (i32 1)) = 0 → wp SC 514 d s 118 [(0, .ref a0), (1, .int x1), (2, .ref a2), (3, .int x3)] [] h Q) (K2 : ((xe5 >>> (x3 &&& 31)) &&& (i32 1)) = 0 → wp SC 514 d s 115 [(0, .ref a0), (1, .int x1), (2, .ref a2), (3, .int x3)] [] h Q) : wp SC 514 d s 99 [(0, .ref a0), (1, .int x1), (2, .ref a2), (3, .int x3)] [] h Q := by
  refine wp_run 1 (pc' := 100) (lv' := [(0, .ref a0), (1, .int x1), (2, .ref a2), (3, .int x3)]) (st' := [.ref a0]) rfl ?_
  obtain ⟨w2, e2a, e2b⟩ := e2
  refine wp_gf ⟨rfl, rfl⟩ rfl e2a e2b ?_
  obtain ⟨w4, e4a, e4b⟩ := e4
  refine wp_gf ⟨rfl, rfl⟩ rfl e4a e4b ?_
  refine wp_run 1 (pc' := 107) (lv' := [(0, .ref a0), (1, .int x1), (2, .ref a2), (3, .int x3)]) (st' := [.int x1, .ref ae3]) rfl ?_
  obtain ⟨w6, i6, e6a, e6x, e6i, e6v⟩ := e6
  refine wp_ial ⟨rfl, rfl⟩ e6a rfl e6x e6i e6v ?_
  refine wp_run 4 (pc' := 112) (lv' := [(0, .ref a0), (1, .int x1), (2, .ref a2), (3, .int x3)]) (st' := [.int ((xe5 >>> (x3 &&& 31)) &&& (i32 1))]) rfl ?_
  exact wp_if ⟨rfl, rfl⟩ rfl (fun hc => wp_weak (re_sb_at rfl (re_sb_at rfl (re_sb_at rfl (re_sb_at rfl (re_sb_nil _))))) (K1 (ic1_ne hc))) (fun hc => wp_weak (re_sb_at rfl (re_sb_at rfl (re_sb_at rfl (re_sb_at rfl (re_sb_nil _))))) (K2 (ic0_ne hc)))
set_option maxRecDepth 20000 in
theorem B514_115 {SC : List Value} {d s : Nat} {h : re_H} {Q : Nat → Value → re_H → Prop} {a0 : Nat} {x1 : Int32} {a2 : Nat} {x3 : Int32}
    (K : wp SC 514 d s 149 [(0, .ref a0), (1, .int x1), (2, .ref a2), (3, .int x3)] [] h Q) : wp SC 514 d s 115 [(0, .ref a0), (1, .int x1), (2, .ref a2), (3, .int x3)] [] h Q := by
  refine wp_run 1 (pc' := 149) (lv' := [(0, .ref a0), (1, .int x1), (2, .ref a2), (3, .int x3)]) (st' := []) rfl ?_
  exact wp_weak (re_sb_at rfl (re_sb_at rfl (re_sb_at rfl (re_sb_at rfl (re_sb_nil _))))) K
set_option maxRecDepth 20000 in
theorem B514_118 {SC : List Value} {d s : Nat} {h : re_H} {Q : Nat → Value → re_H → Prop} {a0 : Nat} {x1 : Int32} {a2 : Nat} {x3 : Int32}
    {c : Nat} {w : List Value} (eg : re_hg h a0 = some (c, w)) (ec : c = 8) (K : wp SC 516 d 0 0 [(0, .ref a0), (1, .int x3)] [] h (wp_ret SC 514 (d + 1) s 123 [(0, .ref a0), (1, .int x1), (2, .ref a2), (3, .int x3)] [] Q)) : wp SC 514 (d + 1) s 118 [(0, .ref a0), (1, .int x1), (2, .ref a2), (3, .int x3)] [] h Q := by
  refine wp_run 2 (pc' := 120) (lv' := [(0, .ref a0), (1, .int x1), (2, .ref a2), (3, .int x3)]) (st' := [.int x3, .ref a0]) rfl ?_
  have eA : lv_args 0 (.ref a0 :: [.int x3].reverse) = [(0, .ref a0), (1, .int x3)] := by simp [lv_args, vc_i, vc_l, vc_r, vc_n, vc_a]
  refine wp_callV (ar := [.int x3]) (rest := []) (s1 := 0) (s2 := s) (d' := d) ⟨rfl, rfl⟩ rfl (Or.inl rfl)  (by simp [re_cat, vc_i, vc_l, vc_r, vc_n, vc_a]) (by rw [show re_cat (.ref a0 :: [.int x3].reverse) = 2 from by simp [re_cat, vc_i, vc_l, vc_r, vc_n, vc_a]]; decide) (by decide) rfl eg ec rfl (Nat.le_of_eq (Nat.zero_add s)) ?_
  rw [eA]
  exact wp_mono K (fun k v h' z => wp_ret_weak (re_sb_at rfl (re_sb_at rfl (re_sb_at rfl (re_sb_at rfl (re_sb_nil _))))) z)
set_option maxRecDepth 20000 in
theorem B514_123 {SC : List Value} {d s : Nat} {h : re_H} {Q : Nat → Value → re_H → Prop} {a0 : Nat} {x1 : Int32} {a2 : Nat} {x3 : Int32} {vs0 : Value} (rs0 : re_R vs0)
    {c : Nat} {w : List Value} (eg : re_hg h a0 = some (c, w)) (ec : c = 8) (K : wp SC 517 d 0 0 [(0, .ref a0), (1, vs0), (2, .int x3)] [] h (wp_ret SC 514 (d + 1) s 134 [(0, .ref a0), (1, .int x1), (2, .ref a2), (3, .int x3), (4, vs0)] [.int x3, .ref a2] Q)) : wp SC 514 (d + 1) s 123 [(0, .ref a0), (1, .int x1), (2, .ref a2), (3, .int x3)] [vs0] h Q := by
  refine wp_asR (ins := .astore 4) (k := 4) (pc' := 125) (lv' := [(4, vs0), (0, .ref a0), (1, .int x1), (2, .ref a2), (3, .int x3)]) ⟨rfl, rfl⟩ (Or.inl ⟨_, rfl, rfl, rfl⟩) (by decide) rs0 rfl ?_
  refine wp_run 3 (pc' := 128) (lv' := [(4, vs0), (0, .ref a0), (1, .int x1), (2, .ref a2), (3, .int x3)]) (st' := [.ref a0, .int x3, .ref a2]) rfl ?_
  refine wp_alR (ins := .aload 4) (k := 4) (pc' := 130) ⟨rfl, rfl⟩ (Or.inl ⟨_, rfl, rfl, rfl⟩) rfl rs0 ?_
  refine wp_run 1 (pc' := 131) (lv' := [(4, vs0), (0, .ref a0), (1, .int x1), (2, .ref a2), (3, .int x3)]) (st' := [.int x3, vs0, .ref a0, .int x3, .ref a2]) rfl ?_
  have eA : lv_args 0 (.ref a0 :: [.int x3, vs0].reverse) = [(0, .ref a0), (1, vs0), (2, .int x3)] := by simp [lv_args, vc_i, vc_l, vc_r, vc_n, vc_a, re_R_cat rs0]
  refine wp_callV (ar := [.int x3, vs0]) (rest := [.int x3, .ref a2]) (s1 := 0) (s2 := s) (d' := d) ⟨rfl, rfl⟩ rfl (Or.inl rfl)  (by simp [re_cat, vc_i, vc_l, vc_r, vc_n, vc_a]) (by rw [show re_cat (.ref a0 :: [.int x3, vs0].reverse) = 3 from by simp [re_cat, vc_i, vc_l, vc_r, vc_n, vc_a, re_R_cat rs0]]; decide) (by decide) rfl eg ec rfl (Nat.le_of_eq (Nat.zero_add s)) ?_
  rw [eA]
  exact wp_mono K (fun k v h' z => wp_ret_weak (re_sb_at rfl (re_sb_at rfl (re_sb_at rfl (re_sb_at rfl (re_sb_at rfl (re_sb_nil _)))))) z)
set_option maxRecDepth 20000 in
theorem B514_134 {SC : List Value} {d s : Nat} {h : re_H} {Q : Nat → Value → re_H → Prop} {a0 : Nat} {x1 : Int32} {a2 : Nat} {x3 : Int32} {v4 : Value} (r4 : re_R v4) {xs0 : Int32} {xs1 : Int32} {as2 : Nat}
    {c : Nat} {w : List Value} (eg : re_hg h a0 = some (c, w)) (ec : c = 8) (K : wp SC 518 d 0 0 [(0, .ref a0), (1, v4), (2, .int x3)] [] h (wp_ret SC 514 (d + 1) s 141 [(0, .ref a0), (1, .int x1), (2, .ref a2), (3, .int x3)] [.int xs0, .int xs1, .ref as2] Q)) : wp SC 514 (d + 1) s 134 [(0, .ref a0), (1, .int x1), (2, .ref a2), (3, .int x3), (4, v4)] [.int xs0, .int xs1, .ref as2] h Q := by
  refine wp_run 1 (pc' := 135) (lv' := [(0, .ref a0), (1, .int x1), (2, .ref a2), (3, .int x3), (4, v4)]) (st' := [.ref a0, .int xs0, .int xs1, .ref as2]) rfl ?_
  refine wp_alR (ins := .aload 4) (k := 4) (pc' := 137) ⟨rfl, rfl⟩ (Or.inl ⟨_, rfl, rfl, rfl⟩) rfl r4 ?_
  refine wp_run 1 (pc' := 138) (lv' := [(0, .ref a0), (1, .int x1), (2, .ref a2), (3, .int x3), (4, v4)]) (st' := [.int x3, v4, .ref a0, .int xs0, .int xs1, .ref as2]) rfl ?_
  have eA : lv_args 0 (.ref a0 :: [.int x3, v4].reverse) = [(0, .ref a0), (1, v4), (2, .int x3)] := by simp [lv_args, vc_i, vc_l, vc_r, vc_n, vc_a, re_R_cat r4]
  refine wp_callV (ar := [.int x3, v4]) (rest := [.int xs0, .int xs1, .ref as2]) (s1 := 0) (s2 := s) (d' := d) ⟨rfl, rfl⟩ rfl (Or.inl rfl)  (by simp [re_cat, vc_i, vc_l, vc_r, vc_n, vc_a]) (by rw [show re_cat (.ref a0 :: [.int x3, v4].reverse) = 3 from by simp [re_cat, vc_i, vc_l, vc_r, vc_n, vc_a, re_R_cat r4]]; decide) (by decide) rfl eg ec rfl (Nat.le_of_eq (Nat.zero_add s)) ?_
  rw [eA]
  exact wp_mono K (fun k v h' z => wp_ret_weak (re_sb_at rfl (re_sb_at rfl (re_sb_at rfl (re_sb_at rfl (re_sb_nil _))))) z)
set_option maxRecDepth 20000 in
theorem B514_141 {SC : List Value} {d s : Nat} {h : re_H} {Q : Nat → Value → re_H → Prop} {a0 : Nat} {x1 : Int32} {a2 : Nat} {x3 : Int32} {ls0 : Int64} {xs1 : Int32} {xs2 : Int32} {as3 : Nat}
    {c : Nat} {w : List Value} (eg : re_hg h as3 = some (c, w)) (ec : c = 5) (K : wp SC 325 d 0 0 [(0, .ref as3), (1, .int xs2), (2, .int xs1), (3, .long ls0)] [] h (wp_ret SC 514 (d + 1) s 144 [(0, .ref a0), (1, .int x1), (2, .ref a2), (3, .int x3)] [] Q)) : wp SC 514 (d + 1) s 141 [(0, .ref a0), (1, .int x1), (2, .ref a2), (3, .int x3)] [.long ls0, .int xs1, .int xs2, .ref as3] h Q := by
  have eA : lv_args 0 (.ref as3 :: [.long ls0, .int xs1, .int xs2].reverse) = [(0, .ref as3), (1, .int xs2), (2, .int xs1), (3, .long ls0)] := by simp [lv_args, vc_i, vc_l, vc_r, vc_n, vc_a]
  refine wp_callV (ar := [.long ls0, .int xs1, .int xs2]) (rest := []) (s1 := 0) (s2 := s) (d' := d) ⟨rfl, rfl⟩ rfl (Or.inl rfl)  (by simp [re_cat, vc_i, vc_l, vc_r, vc_n, vc_a]) (by rw [show re_cat (.ref as3 :: [.long ls0, .int xs1, .int xs2].reverse) = 5 from by simp [re_cat, vc_i, vc_l, vc_r, vc_n, vc_a]]; decide) (by decide) rfl eg ec rfl (Nat.le_of_eq (Nat.zero_add s)) ?_
  rw [eA]
  exact wp_mono K (fun k v h' z => wp_ret_weak (re_sb_at rfl (re_sb_at rfl (re_sb_at rfl (re_sb_at rfl (re_sb_nil _))))) z)
set_option maxRecDepth 20000 in
theorem B514_144 {SC : List Value} {d s : Nat} {h : re_H} {Q : Nat → Value → re_H → Prop} {a0 : Nat} {x1 : Int32} {a2 : Nat} {x3 : Int32} {xs0 : Int32}
    (K1 : ¬ xs0 = 0 → wp SC 514 d s 149 [(0, .ref a0), (1, .int x1), (2, .ref a2), (3, .int x3)] [] h Q) (K2 : xs0 = 0 → wp SC 514 d s 147 [] [] h Q) : wp SC 514 d s 144 [(0, .ref a0), (1, .int x1), (2, .ref a2), (3, .int x3)] [.int xs0] h Q := by
  exact wp_if ⟨rfl, rfl⟩ rfl (fun hc => wp_weak (re_sb_at rfl (re_sb_at rfl (re_sb_at rfl (re_sb_at rfl (re_sb_nil _))))) (K1 (ic1_ne hc))) (fun hc => wp_weak (re_sb_nil _) (K2 (ic0_ne hc)))
set_option maxRecDepth 20000 in
theorem B514_147 {SC : List Value} {d s : Nat} {h : re_H} {Q : Nat → Value → re_H → Prop} 
    (K : Q 1 (.int (i32 1)) h) : wp SC 514 d s 147 [] [] h Q := by
  refine wp_run 1 (pc' := 148) (lv' := []) (st' := [.int (i32 1)]) rfl ?_
  exact wp_retz ⟨rfl, rfl⟩ rfl (Or.inr rfl) K
set_option maxRecDepth 20000 in
theorem B514_149 {SC : List Value} {d s : Nat} {h : re_H} {Q : Nat → Value → re_H → Prop} {a0 : Nat} {x1 : Int32} {a2 : Nat} {x3 : Int32}
    (K : wp SC 514 d s 93 [(0, .ref a0), (1, .int x1), (2, .ref a2), (3, .int (x3 + (i32 1)))] [] h Q) : wp SC 514 d s 149 [(0, .ref a0), (1, .int x1), (2, .ref a2), (3, .int x3)] [] h Q := by
  refine wp_run 2 (pc' := 93) (lv' := [(3, .int (x3 + (i32 1))), (0, .ref a0), (1, .int x1), (2, .ref a2)]) (st' := []) rfl ?_
  exact wp_weak (re_sb_at rfl (re_sb_at rfl (re_sb_at rfl (re_sb_at rfl (re_sb_nil _))))) K
set_option maxRecDepth 20000 in
theorem B514_155 {SC : List Value} {d s : Nat} {h : re_H} {Q : Nat → Value → re_H → Prop} 
    (K : Q 1 (.int (i32 0)) h) : wp SC 514 d s 155 [] [] h Q := by
  refine wp_run 1 (pc' := 156) (lv' := []) (st' := [.int (i32 0)]) rfl ?_
  exact wp_retz ⟨rfl, rfl⟩ rfl (Or.inl rfl) K
theorem B515_0 {SC : List Value} {d s : Nat} {h : re_H} {Q : Nat → Value → re_H → Prop} {a0 : Nat} {x1 : Int32}
    {ae1 : Nat} (e2 : nb_fd h a0 8 3 (.ref ae1)) {xe3 : Int32} (e4 : nb_fd h a0 8 4 (.int xe3)) {ae5 : Nat} (e6 : nb_ar h ae1 105 (xe3 + x1) (.ref ae5)) (K : Q 3 (.ref ae5) h) : wp SC 515 d s 0 [(0, .ref a0), (1, .int x1)] [] h Q := by
  refine wp_run 1 (pc' := 1) (lv' := [(0, .ref a0), (1, .int x1)]) (st' := [.ref a0]) rfl ?_
  obtain ⟨w2, e2a, e2b⟩ := e2
  refine wp_gf ⟨rfl, rfl⟩ rfl e2a e2b ?_
  refine wp_run 1 (pc' := 5) (lv' := [(0, .ref a0), (1, .int x1)]) (st' := [.ref a0, .ref ae1]) rfl ?_
  obtain ⟨w4, e4a, e4b⟩ := e4
  refine wp_gf ⟨rfl, rfl⟩ rfl e4a e4b ?_
  refine wp_run 2 (pc' := 10) (lv' := [(0, .ref a0), (1, .int x1)]) (st' := [.int (xe3 + x1), .ref ae1]) rfl ?_
  obtain ⟨w6, i6, e6a, e6x, e6i, e6v⟩ := e6
  refine wp_aal ⟨rfl, rfl⟩ e6a ⟨by decide, by decide⟩ e6x e6i e6v ?_
  exact wp_reta ⟨rfl, rfl⟩ rfl (Or.inr ⟨_, rfl⟩) K
theorem B516_0 {SC : List Value} {d s : Nat} {h : re_H} {Q : Nat → Value → re_H → Prop} {a0 : Nat} {x1 : Int32}
    {ae1 : Nat} (e2 : nb_fd h a0 8 1 (.ref ae1)) {ae3 : Nat} (e4 : nb_fd h ae1 3 2 (.ref ae3)) {xe5 : Int32} (e6 : nb_ar h ae3 100 x1 (.int xe5)) (K1 : xe5 = (-1) → wp SC 516 d s 38 [] [] h Q) (K2 : ¬ xe5 = (-1) → wp SC 516 d s 15 [(0, .ref a0), (2, .int xe5)] [] h Q) : wp SC 516 d s 0 [(0, .ref a0), (1, .int x1)] [] h Q := by
  refine wp_run 1 (pc' := 1) (lv' := [(0, .ref a0), (1, .int x1)]) (st' := [.ref a0]) rfl ?_
  obtain ⟨w2, e2a, e2b⟩ := e2
  refine wp_gf ⟨rfl, rfl⟩ rfl e2a e2b ?_
  obtain ⟨w4, e4a, e4b⟩ := e4
  refine wp_gf ⟨rfl, rfl⟩ rfl e4a e4b ?_
  refine wp_run 1 (pc' := 8) (lv' := [(0, .ref a0), (1, .int x1)]) (st' := [.int x1, .ref ae3]) rfl ?_
  obtain ⟨w6, i6, e6a, e6x, e6i, e6v⟩ := e6
  refine wp_ial ⟨rfl, rfl⟩ e6a rfl e6x e6i e6v ?_
  refine wp_run 3 (pc' := 12) (lv' := [(2, .int xe5), (0, .ref a0), (1, .int x1)]) (st' := [.int (-1), .int xe5]) rfl ?_
  exact wp_cmp ⟨rfl, rfl⟩ rfl (fun hc => wp_weak (re_sb_nil _) (K1 (ic1_eq hc))) (fun hc => wp_weak (re_sb_at rfl (re_sb_at rfl (re_sb_nil _))) (K2 (ic0_eq hc)))
theorem B516_15 {SC : List Value} {d s : Nat} {h : re_H} {Q : Nat → Value → re_H → Prop} {a0 : Nat} {x2 : Int32}
    {ae1 : Nat} (e2 : nb_fd h a0 8 1 (.ref ae1)) {ae3 : Nat} (e4 : nb_fd h ae1 3 6 (.ref ae3)) {xe5 : Int32} (e6 : nb_ar h ae3 100 x2 (.int xe5)) (K1 : ¬ xe5 = 0 → wp SC 516 d s 38 [] [] h Q) (K2 : xe5 = 0 → wp SC 516 d s 27 [(0, .ref a0), (2, .int x2)] [] h Q) : wp SC 516 d s 15 [(0, .ref a0), (2, .int x2)] [] h Q := by
  refine wp_run 1 (pc' := 16) (lv' := [(0, .ref a0), (2, .int x2)]) (st' := [.ref a0]) rfl ?_
  obtain ⟨w2, e2a, e2b⟩ := e2
  refine wp_gf ⟨rfl, rfl⟩ rfl e2a e2b ?_
  obtain ⟨w4, e4a, e4b⟩ := e4
  refine wp_gf ⟨rfl, rfl⟩ rfl e4a e4b ?_
  refine wp_run 1 (pc' := 23) (lv' := [(0, .ref a0), (2, .int x2)]) (st' := [.int x2, .ref ae3]) rfl ?_
  obtain ⟨w6, i6, e6a, e6x, e6i, e6v⟩ := e6
  refine wp_ial ⟨rfl, rfl⟩ e6a rfl e6x e6i e6v ?_
  exact wp_if ⟨rfl, rfl⟩ rfl (fun hc => wp_weak (re_sb_nil _) (K1 (ic1_ne hc))) (fun hc => wp_weak (re_sb_at rfl (re_sb_at rfl (re_sb_nil _))) (K2 (ic0_ne hc)))
theorem B516_27 {SC : List Value} {d s : Nat} {h : re_H} {Q : Nat → Value → re_H → Prop} {a0 : Nat} {x2 : Int32}
    {c : Nat} {w : List Value} (eg : re_hg h a0 = some (c, w)) (ec : c = 8) (K : wp SC 515 d 0 0 [(0, .ref a0), (1, .int x2)] [] h (wp_ret SC 516 (d + 1) s 32 [(0, .ref a0), (2, .int x2)] [] Q)) : wp SC 516 (d + 1) s 27 [(0, .ref a0), (2, .int x2)] [] h Q := by
  refine wp_run 2 (pc' := 29) (lv' := [(0, .ref a0), (2, .int x2)]) (st' := [.int x2, .ref a0]) rfl ?_
  have eA : lv_args 0 (.ref a0 :: [.int x2].reverse) = [(0, .ref a0), (1, .int x2)] := by simp [lv_args, vc_i, vc_l, vc_r, vc_n, vc_a]
  refine wp_callV (ar := [.int x2]) (rest := []) (s1 := 0) (s2 := s) (d' := d) ⟨rfl, rfl⟩ rfl (Or.inl rfl)  (by simp [re_cat, vc_i, vc_l, vc_r, vc_n, vc_a]) (by rw [show re_cat (.ref a0 :: [.int x2].reverse) = 2 from by simp [re_cat, vc_i, vc_l, vc_r, vc_n, vc_a]]; decide) (by decide) rfl eg ec rfl (Nat.le_of_eq (Nat.zero_add s)) ?_
  rw [eA]
  exact wp_mono K (fun k v h' z => wp_ret_weak (re_sb_at rfl (re_sb_at rfl (re_sb_nil _))) z)
theorem B516_32 {SC : List Value} {d s : Nat} {h : re_H} {Q : Nat → Value → re_H → Prop} {a0 : Nat} {x2 : Int32} {as0 : Nat}
    {xe1 : Int32} (e2 : nb_fd h as0 5 0 (.int xe1)) (K1 : xe1 = 0 → wp SC 516 d s 40 [(0, .ref a0), (2, .int x2)] [] h Q) (K2 : ¬ xe1 = 0 → wp SC 516 d s 38 [] [] h Q) : wp SC 516 d s 32 [(0, .ref a0), (2, .int x2)] [.ref as0] h Q := by
  obtain ⟨w2, e2a, e2b⟩ := e2
  refine wp_gf ⟨rfl, rfl⟩ rfl e2a e2b ?_
  exact wp_if ⟨rfl, rfl⟩ rfl (fun hc => wp_weak (re_sb_at rfl (re_sb_at rfl (re_sb_nil _))) (K1 (ic1_eq hc))) (fun hc => wp_weak (re_sb_nil _) (K2 (ic0_eq hc)))
theorem B516_38 {SC : List Value} {d s : Nat} {h : re_H} {Q : Nat → Value → re_H → Prop} 
    (K : Q 3 (.null) h) : wp SC 516 d s 38 [] [] h Q := by
  refine wp_run 1 (pc' := 39) (lv' := []) (st' := [.null]) rfl ?_
  exact wp_reta ⟨rfl, rfl⟩ rfl (Or.inl rfl) K
theorem B516_40 {SC : List Value} {d s : Nat} {h : re_H} {Q : Nat → Value → re_H → Prop} {a0 : Nat} {x2 : Int32}
    {c : Nat} {w : List Value} (eg : re_hg h a0 = some (c, w)) (ec : c = 8) (K : wp SC 515 d 0 0 [(0, .ref a0), (1, .int x2)] [] h (wp_ret SC 516 (d + 1) s 45 [] [] Q)) : wp SC 516 (d + 1) s 40 [(0, .ref a0), (2, .int x2)] [] h Q := by
  refine wp_run 2 (pc' := 42) (lv' := [(0, .ref a0), (2, .int x2)]) (st' := [.int x2, .ref a0]) rfl ?_
  have eA : lv_args 0 (.ref a0 :: [.int x2].reverse) = [(0, .ref a0), (1, .int x2)] := by simp [lv_args, vc_i, vc_l, vc_r, vc_n, vc_a]
  refine wp_callV (ar := [.int x2]) (rest := []) (s1 := 0) (s2 := s) (d' := d) ⟨rfl, rfl⟩ rfl (Or.inl rfl)  (by simp [re_cat, vc_i, vc_l, vc_r, vc_n, vc_a]) (by rw [show re_cat (.ref a0 :: [.int x2].reverse) = 2 from by simp [re_cat, vc_i, vc_l, vc_r, vc_n, vc_a]]; decide) (by decide) rfl eg ec rfl (Nat.le_of_eq (Nat.zero_add s)) ?_
  rw [eA]
  exact wp_mono K (fun k v h' z => wp_ret_weak (re_sb_nil _) z)
theorem B516_45 {SC : List Value} {d s : Nat} {h : re_H} {Q : Nat → Value → re_H → Prop} {as0 : Nat}
    (K : Q 3 (.ref as0) h) : wp SC 516 d s 45 [] [.ref as0] h Q := by
  exact wp_reta ⟨rfl, rfl⟩ rfl (Or.inr ⟨_, rfl⟩) K
theorem B517_0 {SC : List Value} {d s : Nat} {h : re_H} {Q : Nat → Value → re_H → Prop} {v1 : Value} (r1 : re_R v1) {x2 : Int32}
    (K1 : v1 = .null → wp SC 517 d s 4 [] [] h Q) (K2 : ∀ b1, v1 = .ref b1 → wp SC 517 d s 8 [(1, .ref b1), (2, .int x2)] [] h Q) : wp SC 517 d s 0 [(1, v1), (2, .int x2)] [] h Q := by
  refine wp_alR (ins := .aload_n 1) (k := 1) (pc' := 1) ⟨rfl, rfl⟩ (Or.inr ⟨_, rfl, rfl, rfl⟩) rfl r1 ?_
  exact wp_ifnn ⟨rfl, rfl⟩ rfl r1 (fun bb hc => by subst hc; exact wp_weak (re_sb_at rfl (re_sb_at rfl (re_sb_nil _))) (K2 bb rfl)) (fun hc => by subst hc; exact wp_weak (re_sb_nil _) (K1 rfl))
theorem B517_4 {SC : List Value} {d s : Nat} {h : re_H} {Q : Nat → Value → re_H → Prop} 
    (K : wp SC 517 d s 13 [] [.int (i32 0)] h Q) : wp SC 517 d s 4 [] [] h Q := by
  refine wp_run 2 (pc' := 13) (lv' := []) (st' := [.int (i32 0)]) rfl ?_
  exact wp_weak (re_sb_nil _) K
theorem B517_8 {SC : List Value} {d s : Nat} {h : re_H} {Q : Nat → Value → re_H → Prop} {a1 : Nat} {x2 : Int32}
    {c : Nat} {w : List Value} (eg : re_hg h a1 = some (c, w)) (ec : c = 5) (K : wp SC 322 d 0 0 [(0, .ref a1), (1, .int x2)] [] h (wp_ret SC 517 (d + 1) s 13 [] [] Q)) : wp SC 517 (d + 1) s 8 [(1, .ref a1), (2, .int x2)] [] h Q := by
  refine wp_run 2 (pc' := 10) (lv' := [(1, .ref a1), (2, .int x2)]) (st' := [.int x2, .ref a1]) rfl ?_
  have eA : lv_args 0 (.ref a1 :: [.int x2].reverse) = [(0, .ref a1), (1, .int x2)] := by simp [lv_args, vc_i, vc_l, vc_r, vc_n, vc_a]
  refine wp_callV (ar := [.int x2]) (rest := []) (s1 := 0) (s2 := s) (d' := d) ⟨rfl, rfl⟩ rfl (Or.inl rfl)  (by simp [re_cat, vc_i, vc_l, vc_r, vc_n, vc_a]) (by rw [show re_cat (.ref a1 :: [.int x2].reverse) = 2 from by simp [re_cat, vc_i, vc_l, vc_r, vc_n, vc_a]]; decide) (by decide) rfl eg ec rfl (Nat.le_of_eq (Nat.zero_add s)) ?_
  rw [eA]
  exact wp_mono K (fun k v h' z => wp_ret_weak (re_sb_nil _) z)
theorem B517_13 {SC : List Value} {d s : Nat} {h : re_H} {Q : Nat → Value → re_H → Prop} {xs0 : Int32}
    (K : Q 1 (.int xs0) h) : wp SC 517 d s 13 [] [.int xs0] h Q := by
  exact wp_reti ⟨rfl, rfl⟩ rfl K
theorem B518_0 {SC : List Value} {d s : Nat} {h : re_H} {Q : Nat → Value → re_H → Prop} {v1 : Value} (r1 : re_R v1) {x2 : Int32}
    (K1 : v1 = .null → wp SC 518 d s 4 [] [] h Q) (K2 : ∀ b1, v1 = .ref b1 → wp SC 518 d s 8 [(1, .ref b1), (2, .int x2)] [] h Q) : wp SC 518 d s 0 [(1, v1), (2, .int x2)] [] h Q := by
  refine wp_alR (ins := .aload_n 1) (k := 1) (pc' := 1) ⟨rfl, rfl⟩ (Or.inr ⟨_, rfl, rfl, rfl⟩) rfl r1 ?_
  exact wp_ifnn ⟨rfl, rfl⟩ rfl r1 (fun bb hc => by subst hc; exact wp_weak (re_sb_at rfl (re_sb_at rfl (re_sb_nil _))) (K2 bb rfl)) (fun hc => by subst hc; exact wp_weak (re_sb_nil _) (K1 rfl))
theorem B518_4 {SC : List Value} {d s : Nat} {h : re_H} {Q : Nat → Value → re_H → Prop} 
    (K : wp SC 518 d s 13 [] [.long (0)] h Q) : wp SC 518 d s 4 [] [] h Q := by
  refine wp_run 2 (pc' := 13) (lv' := []) (st' := [.long (0)]) rfl ?_
  exact wp_weak (re_sb_nil _) K
theorem B518_8 {SC : List Value} {d s : Nat} {h : re_H} {Q : Nat → Value → re_H → Prop} {a1 : Nat} {x2 : Int32}
    {c : Nat} {w : List Value} (eg : re_hg h a1 = some (c, w)) (ec : c = 5) (K : wp SC 324 d 0 0 [(0, .ref a1), (1, .int x2)] [] h (wp_ret SC 518 (d + 1) s 13 [] [] Q)) : wp SC 518 (d + 1) s 8 [(1, .ref a1), (2, .int x2)] [] h Q := by
  refine wp_run 2 (pc' := 10) (lv' := [(1, .ref a1), (2, .int x2)]) (st' := [.int x2, .ref a1]) rfl ?_
  have eA : lv_args 0 (.ref a1 :: [.int x2].reverse) = [(0, .ref a1), (1, .int x2)] := by simp [lv_args, vc_i, vc_l, vc_r, vc_n, vc_a]
  refine wp_callV (ar := [.int x2]) (rest := []) (s1 := 0) (s2 := s) (d' := d) ⟨rfl, rfl⟩ rfl (Or.inl rfl)  (by simp [re_cat, vc_i, vc_l, vc_r, vc_n, vc_a]) (by rw [show re_cat (.ref a1 :: [.int x2].reverse) = 2 from by simp [re_cat, vc_i, vc_l, vc_r, vc_n, vc_a]]; decide) (by decide) rfl eg ec rfl (Nat.le_of_eq (Nat.zero_add s)) ?_
  rw [eA]
  exact wp_mono K (fun k v h' z => wp_ret_weak (re_sb_nil _) z)
theorem B518_13 {SC : List Value} {d s : Nat} {h : re_H} {Q : Nat → Value → re_H → Prop} {ls0 : Int64}
    (K : Q 2 (.long ls0) h) : wp SC 518 d s 13 [] [.long ls0] h Q := by
  exact wp_retl ⟨rfl, rfl⟩ rfl K
set_option maxRecDepth 20000 in
theorem B519_0 {SC : List Value} {d s : Nat} {h : re_H} {Q : Nat → Value → re_H → Prop} {a0 : Nat} {x1 : Int32}
    {c : Nat} {w : List Value} (eg : re_hg h a0 = some (c, w)) (ec : c = 8) (K : wp SC 515 d 0 0 [(0, .ref a0), (1, .int x1)] [] h (wp_ret SC 519 (d + 1) s 5 [(0, .ref a0), (1, .int x1)] [] Q)) : wp SC 519 (d + 1) s 0 [(0, .ref a0), (1, .int x1)] [] h Q := by
  refine wp_run 2 (pc' := 2) (lv' := [(0, .ref a0), (1, .int x1)]) (st' := [.int x1, .ref a0]) rfl ?_
  have eA : lv_args 0 (.ref a0 :: [.int x1].reverse) = [(0, .ref a0), (1, .int x1)] := by simp [lv_args, vc_i, vc_l, vc_r, vc_n, vc_a]
  refine wp_callV (ar := [.int x1]) (rest := []) (s1 := 0) (s2 := s) (d' := d) ⟨rfl, rfl⟩ rfl (Or.inl rfl)  (by simp [re_cat, vc_i, vc_l, vc_r, vc_n, vc_a]) (by rw [show re_cat (.ref a0 :: [.int x1].reverse) = 2 from by simp [re_cat, vc_i, vc_l, vc_r, vc_n, vc_a]]; decide) (by decide) rfl eg ec rfl (Nat.le_of_eq (Nat.zero_add s)) ?_
  rw [eA]
  exact wp_mono K (fun k v h' z => wp_ret_weak (re_sb_at rfl (re_sb_at rfl (re_sb_nil _))) z)
set_option maxRecDepth 20000 in
theorem B519_5 {SC : List Value} {d s : Nat} {h : re_H} {Q : Nat → Value → re_H → Prop} {a0 : Nat} {x1 : Int32} {as0 : Nat}
    {ae1 : Nat} (e2 : nb_fd h a0 8 1 (.ref ae1)) {ae3 : Nat} (e4 : nb_fd h ae1 3 6 (.ref ae3)) {xe5 : Int32} (e6 : nb_ar h ae3 100 x1 (.int xe5)) (K1 : xe5 = 0 → wp SC 519 d s 33 [(0, .ref a0), (1, .int x1), (2, .ref as0)] [] h Q) (K2 : ¬ xe5 = 0 → wp SC 519 d s 18 [(0, .ref a0), (1, .int x1), (2, .ref as0)] [] h Q) : wp SC 519 d s 5 [(0, .ref a0), (1, .int x1)] [.ref as0] h Q := by
  refine wp_run 2 (pc' := 7) (lv' := [(2, .ref as0), (0, .ref a0), (1, .int x1)]) (st' := [.ref a0]) rfl ?_
  obtain ⟨w2, e2a, e2b⟩ := e2
  refine wp_gf ⟨rfl, rfl⟩ rfl e2a e2b ?_
  obtain ⟨w4, e4a, e4b⟩ := e4
  refine wp_gf ⟨rfl, rfl⟩ rfl e4a e4b ?_
  refine wp_run 1 (pc' := 14) (lv' := [(2, .ref as0), (0, .ref a0), (1, .int x1)]) (st' := [.int x1, .ref ae3]) rfl ?_
  obtain ⟨w6, i6, e6a, e6x, e6i, e6v⟩ := e6
  refine wp_ial ⟨rfl, rfl⟩ e6a rfl e6x e6i e6v ?_
  exact wp_if ⟨rfl, rfl⟩ rfl (fun hc => wp_weak (re_sb_at rfl (re_sb_at rfl (re_sb_at rfl (re_sb_nil _)))) (K1 (ic1_eq hc))) (fun hc => wp_weak (re_sb_at rfl (re_sb_at rfl (re_sb_at rfl (re_sb_nil _)))) (K2 (ic0_eq hc)))
set_option maxRecDepth 20000 in
theorem B519_18 {SC : List Value} {d s : Nat} {h : re_H} {Q : Nat → Value → re_H → Prop} {a0 : Nat} {x1 : Int32} {a2 : Nat}
    {ae1 : Nat} (e2 : nb_fd h a0 8 1 (.ref ae1)) {ae3 : Nat} (e4 : nb_fd h ae1 3 6 (.ref ae3)) {xe5 : Int32} (e6 : nb_ar h ae3 100 x1 (.int xe5)) {c : Nat} {w : List Value} (eg : re_hg h a2 = some (c, w)) (ec : c = 5) (K : wp SC 326 d 0 0 [(0, .ref a2), (1, .int xe5)] [] h (wp_ret SC 519 (d + 1) s 31 [] [] Q)) : wp SC 519 (d + 1) s 18 [(0, .ref a0), (1, .int x1), (2, .ref a2)] [] h Q := by
  refine wp_run 2 (pc' := 20) (lv' := [(0, .ref a0), (1, .int x1), (2, .ref a2)]) (st' := [.ref a0, .ref a2]) rfl ?_
  obtain ⟨w2, e2a, e2b⟩ := e2
  refine wp_gf ⟨rfl, rfl⟩ rfl e2a e2b ?_
  obtain ⟨w4, e4a, e4b⟩ := e4
  refine wp_gf ⟨rfl, rfl⟩ rfl e4a e4b ?_
  refine wp_run 1 (pc' := 27) (lv' := [(0, .ref a0), (1, .int x1), (2, .ref a2)]) (st' := [.int x1, .ref ae3, .ref a2]) rfl ?_
  obtain ⟨w6, i6, e6a, e6x, e6i, e6v⟩ := e6
  refine wp_ial ⟨rfl, rfl⟩ e6a rfl e6x e6i e6v ?_
  have eA : lv_args 0 (.ref a2 :: [.int xe5].reverse) = [(0, .ref a2), (1, .int xe5)] := by simp [lv_args, vc_i, vc_l, vc_r, vc_n, vc_a]
  refine wp_callV (ar := [.int xe5]) (rest := []) (s1 := 0) (s2 := s) (d' := d) ⟨rfl, rfl⟩ rfl (Or.inl rfl)  (by simp [re_cat, vc_i, vc_l, vc_r, vc_n, vc_a]) (by rw [show re_cat (.ref a2 :: [.int xe5].reverse) = 2 from by simp [re_cat, vc_i, vc_l, vc_r, vc_n, vc_a]]; decide) (by decide) rfl eg ec rfl (Nat.le_of_eq (Nat.zero_add s)) ?_
  rw [eA]
  exact wp_mono K (fun k v h' z => wp_ret_weak (re_sb_nil _) z)
set_option maxRecDepth 20000 in
theorem B519_31 {SC : List Value} {d s : Nat} {h : re_H} {Q : Nat → Value → re_H → Prop} 
    (K : Q 1 (.int (i32 0)) h) : wp SC 519 d s 31 [] [] h Q := by
  refine wp_run 1 (pc' := 32) (lv' := []) (st' := [.int (i32 0)]) rfl ?_
  exact wp_reti ⟨rfl, rfl⟩ rfl K
set_option maxRecDepth 20000 in
theorem B519_33 {SC : List Value} {d s : Nat} {h : re_H} {Q : Nat → Value → re_H → Prop} {a0 : Nat} {x1 : Int32} {a2 : Nat}
    {ae1 : Nat} (e2 : nb_fd h a0 8 0 (.ref ae1)) {ae3 : Nat} (e4 : nb_fd h ae1 1 1 (.ref ae3)) {ae5 : Nat} (e6 : nb_ar h ae3 104 x1 (.ref ae5)) {ae7 : Nat} (e8 : nb_fd h a0 8 2 (.ref ae7)) {ae9 : Nat} (e10 : nb_fd h ae7 7 1 (.ref ae9)) {c : Nat} {w : List Value} (eg : re_hg h a2 = some (c, w)) (ec : c = 5) (K : wp SC 328 d 0 0 [(0, .ref a2), (1, .ref ae5), (2, .ref ae9)] [] h (wp_ret SC 519 (d + 1) s 55 [(0, .ref a0), (1, .int x1), (2, .ref a2), (3, .ref ae5)] [] Q)) : wp SC 519 (d + 1) s 33 [(0, .ref a0), (1, .int x1), (2, .ref a2)] [] h Q := by
  refine wp_run 1 (pc' := 34) (lv' := [(0, .ref a0), (1, .int x1), (2, .ref a2)]) (st' := [.ref a0]) rfl ?_
  obtain ⟨w2, e2a, e2b⟩ := e2
  refine wp_gf ⟨rfl, rfl⟩ rfl e2a e2b ?_
  obtain ⟨w4, e4a, e4b⟩ := e4
  refine wp_gf ⟨rfl, rfl⟩ rfl e4a e4b ?_
  refine wp_run 1 (pc' := 41) (lv' := [(0, .ref a0), (1, .int x1), (2, .ref a2)]) (st' := [.int x1, .ref ae3]) rfl ?_
  obtain ⟨w6, i6, e6a, e6x, e6i, e6v⟩ := e6
  refine wp_aal ⟨rfl, rfl⟩ e6a ⟨by decide, by decide⟩ e6x e6i e6v ?_
  refine wp_run 4 (pc' := 46) (lv' := [(3, .ref ae5), (0, .ref a0), (1, .int x1), (2, .ref a2)]) (st' := [.ref a0, .ref ae5, .ref a2]) rfl ?_
  obtain ⟨w8, e8a, e8b⟩ := e8
  refine wp_gf ⟨rfl, rfl⟩ rfl e8a e8b ?_
  obtain ⟨w10, e10a, e10b⟩ := e10
  refine wp_gf ⟨rfl, rfl⟩ rfl e10a e10b ?_
  have eA : lv_args 0 (.ref a2 :: [.ref ae9, .ref ae5].reverse) = [(0, .ref a2), (1, .ref ae5), (2, .ref ae9)] := by simp [lv_args, vc_i, vc_l, vc_r, vc_n, vc_a]
  refine wp_callV (ar := [.ref ae9, .ref ae5]) (rest := []) (s1 := 0) (s2 := s) (d' := d) ⟨rfl, rfl⟩ rfl (Or.inl rfl)  (by simp [re_cat, vc_i, vc_l, vc_r, vc_n, vc_a]) (by rw [show re_cat (.ref a2 :: [.ref ae9, .ref ae5].reverse) = 3 from by simp [re_cat, vc_i, vc_l, vc_r, vc_n, vc_a]]; decide) (by decide) rfl eg ec rfl (Nat.le_of_eq (Nat.zero_add s)) ?_
  rw [eA]
  exact wp_mono K (fun k v h' z => wp_ret_weak (re_sb_at rfl (re_sb_at rfl (re_sb_at rfl (re_sb_at rfl (re_sb_nil _))))) z)
set_option maxRecDepth 20000 in
theorem B519_55 {SC : List Value} {d s : Nat} {h : re_H} {Q : Nat → Value → re_H → Prop} {a0 : Nat} {x1 : Int32} {a2 : Nat} {a3 : Nat}
    {ae1 : Nat} (e2 : nb_fd h a0 8 2 (.ref ae1)) {c : Nat} {w : List Value} (eg : re_hg h ae1 = some (c, w)) (ec : c = 7) (K : wp SC 449 d 0 0 [(0, .ref ae1), (1, .int x1)] [] h (wp_ret SC 519 (d + 1) s 63 [(0, .ref a0), (1, .int x1), (2, .ref a2), (3, .ref a3)] [] Q)) : wp SC 519 (d + 1) s 55 [(0, .ref a0), (1, .int x1), (2, .ref a2), (3, .ref a3)] [] h Q := by
  refine wp_run 1 (pc' := 56) (lv' := [(0, .ref a0), (1, .int x1), (2, .ref a2), (3, .ref a3)]) (st' := [.ref a0]) rfl ?_
  obtain ⟨w2, e2a, e2b⟩ := e2
  refine wp_gf ⟨rfl, rfl⟩ rfl e2a e2b ?_
  refine wp_run 1 (pc' := 60) (lv' := [(0, .ref a0), (1, .int x1), (2, .ref a2), (3, .ref a3)]) (st' := [.int x1, .ref ae1]) rfl ?_
  have eA : lv_args 0 (.ref ae1 :: [.int x1].reverse) = [(0, .ref ae1), (1, .int x1)] := by simp [lv_args, vc_i, vc_l, vc_r, vc_n, vc_a]
  refine wp_callV (ar := [.int x1]) (rest := []) (s1 := 0) (s2 := s) (d' := d) ⟨rfl, rfl⟩ rfl (Or.inl rfl)  (by simp [re_cat, vc_i, vc_l, vc_r, vc_n, vc_a]) (by rw [show re_cat (.ref ae1 :: [.int x1].reverse) = 2 from by simp [re_cat, vc_i, vc_l, vc_r, vc_n, vc_a]]; decide) (by decide) rfl eg ec rfl (Nat.le_of_eq (Nat.zero_add s)) ?_
  rw [eA]
  exact wp_mono K (fun k v h' z => wp_ret_weak (re_sb_at rfl (re_sb_at rfl (re_sb_at rfl (re_sb_at rfl (re_sb_nil _))))) z)
set_option maxRecDepth 20000 in
theorem B519_63 {SC : List Value} {d s : Nat} {h : re_H} {Q : Nat → Value → re_H → Prop} {a0 : Nat} {x1 : Int32} {a2 : Nat} {a3 : Nat}
    {c : Nat} {w : List Value} (eg : re_hg h a0 = some (c, w)) (ec : c = 8) (K : wp SC 520 d 0 0 [(0, .ref a0), (1, .int x1), (2, .ref a2)] [] h (wp_ret SC 519 (d + 1) s 69 [(0, .ref a0), (2, .ref a2), (3, .ref a3)] [] Q)) : wp SC 519 (d + 1) s 63 [(0, .ref a0), (1, .int x1), (2, .ref a2), (3, .ref a3)] [] h Q := by
  refine wp_run 3 (pc' := 66) (lv' := [(0, .ref a0), (1, .int x1), (2, .ref a2), (3, .ref a3)]) (st' := [.ref a2, .int x1, .ref a0]) rfl ?_
  have eA : lv_args 0 (.ref a0 :: [.ref a2, .int x1].reverse) = [(0, .ref a0), (1, .int x1), (2, .ref a2)] := by simp [lv_args, vc_i, vc_l, vc_r, vc_n, vc_a]
  refine wp_callV (ar := [.ref a2, .int x1]) (rest := []) (s1 := 0) (s2 := s) (d' := d) ⟨rfl, rfl⟩ rfl (Or.inl rfl)  (by simp [re_cat, vc_i, vc_l, vc_r, vc_n, vc_a]) (by rw [show re_cat (.ref a0 :: [.ref a2, .int x1].reverse) = 3 from by simp [re_cat, vc_i, vc_l, vc_r, vc_n, vc_a]]; decide) (by decide) rfl eg ec rfl (Nat.le_of_eq (Nat.zero_add s)) ?_
  rw [eA]
  exact wp_mono K (fun k v h' z => wp_ret_weak (re_sb_at rfl (re_sb_at rfl (re_sb_at rfl (re_sb_nil _)))) z)
set_option maxRecDepth 20000 in
theorem B519_69 {SC : List Value} {d s : Nat} {h : re_H} {Q : Nat → Value → re_H → Prop} {a0 : Nat} {a2 : Nat} {a3 : Nat} {xs0 : Int32}
    (K1 : ¬ xs0 = 0 → wp SC 519 d s 79 [(0, .ref a0), (2, .ref a2), (3, .ref a3)] [] h Q) (K2 : xs0 = 0 → wp SC 519 d s 72 [(2, .ref a2)] [] h Q) : wp SC 519 d s 69 [(0, .ref a0), (2, .ref a2), (3, .ref a3)] [.int xs0] h Q := by
  exact wp_if ⟨rfl, rfl⟩ rfl (fun hc => wp_weak (re_sb_at rfl (re_sb_at rfl (re_sb_at rfl (re_sb_nil _)))) (K1 (ic1_ne hc))) (fun hc => wp_weak (re_sb_at rfl (re_sb_nil _)) (K2 (ic0_ne hc)))
set_option maxRecDepth 20000 in
theorem B519_72 {SC : List Value} {d s : Nat} {h : re_H} {Q : Nat → Value → re_H → Prop} {a2 : Nat}
    {c : Nat} {w : List Value} (eg : re_hg h a2 = some (c, w)) (ec : c = 5) (K : wp SC 326 d 0 0 [(0, .ref a2), (1, .int (i32 5))] [] h (wp_ret SC 519 (d + 1) s 77 [] [] Q)) : wp SC 519 (d + 1) s 72 [(2, .ref a2)] [] h Q := by
  refine wp_run 2 (pc' := 74) (lv' := [(2, .ref a2)]) (st' := [.int (i32 5), .ref a2]) rfl ?_
  have eA : lv_args 0 (.ref a2 :: [.int (i32 5)].reverse) = [(0, .ref a2), (1, .int (i32 5))] := by simp [lv_args, vc_i, vc_l, vc_r, vc_n, vc_a]
  refine wp_callV (ar := [.int (i32 5)]) (rest := []) (s1 := 0) (s2 := s) (d' := d) ⟨rfl, rfl⟩ rfl (Or.inl rfl)  (by simp [re_cat, vc_i, vc_l, vc_r, vc_n, vc_a]) (by rw [show re_cat (.ref a2 :: [.int (i32 5)].reverse) = 2 from by simp [re_cat, vc_i, vc_l, vc_r, vc_n, vc_a]]; decide) (by decide) rfl eg ec rfl (Nat.le_of_eq (Nat.zero_add s)) ?_
  rw [eA]
  exact wp_mono K (fun k v h' z => wp_ret_weak (re_sb_nil _) z)
set_option maxRecDepth 20000 in
theorem B519_77 {SC : List Value} {d s : Nat} {h : re_H} {Q : Nat → Value → re_H → Prop} 
    (K : Q 1 (.int (i32 1)) h) : wp SC 519 d s 77 [] [] h Q := by
  refine wp_run 1 (pc' := 78) (lv' := []) (st' := [.int (i32 1)]) rfl ?_
  exact wp_reti ⟨rfl, rfl⟩ rfl K
set_option maxRecDepth 20000 in
theorem B519_79 {SC : List Value} {d s : Nat} {h : re_H} {Q : Nat → Value → re_H → Prop} {a0 : Nat} {a2 : Nat} {a3 : Nat}
    (K : wp SC 519 d s 82 [(0, .ref a0), (2, .ref a2), (3, .ref a3), (4, .int (i32 0))] [] h Q) : wp SC 519 d s 79 [(0, .ref a0), (2, .ref a2), (3, .ref a3)] [] h Q := by
  refine wp_run 2 (pc' := 82) (lv' := [(4, .int (i32 0)), (0, .ref a0), (2, .ref a2), (3, .ref a3)]) (st' := []) rfl ?_
  exact wp_weak (re_sb_at rfl (re_sb_at rfl (re_sb_at rfl (re_sb_at rfl (re_sb_nil _))))) K
set_option maxRecDepth 20000 in
theorem B519_82 {SC : List Value} {d s : Nat} {h : re_H} {Q : Nat → Value → re_H → Prop} {a0 : Nat} {a2 : Nat} {a3 : Nat} {x4 : Int32}
    {xe1 : Int32} (e2 : nb_fd h a3 2 0 (.int xe1)) (K1 : ¬ x4 < xe1 → wp SC 519 d s 174 [] [] h Q) (K2 : x4 < xe1 → wp SC 519 d s 91 [(0, .ref a0), (2, .ref a2), (3, .ref a3), (4, .int x4)] [] h Q) : wp SC 519 d s 82 [(0, .ref a0), (2, .ref a2), (3, .ref a3), (4, .int x4)] [] h Q := by
  refine wp_run 2 (pc' := 85) (lv' := [(0, .ref a0), (2, .ref a2), (3, .ref a3), (4, .int x4)]) (st' := [.ref a3, .int x4]) rfl ?_
  obtain ⟨w2, e2a, e2b⟩ := e2
  refine wp_gf ⟨rfl, rfl⟩ rfl e2a e2b ?_
  exact wp_cmp ⟨rfl, rfl⟩ rfl (fun hc => wp_weak (re_sb_nil _) (K1 (ic1_ge hc))) (fun hc => wp_weak (re_sb_at rfl (re_sb_at rfl (re_sb_at rfl (re_sb_at rfl (re_sb_nil _))))) (K2 (ic0_ge hc)))
set_option maxRecDepth 20000 in
theorem B519_91 {SC : List Value} {d s : Nat} {h : re_H} {Q : Nat → Value → re_H → Prop} {a0 : Nat} {a2 : Nat} {a3 : Nat} {x4 : Int32}
    {ae1 : Nat} (e2 : nb_fd h a0 8 2 (.ref ae1)) {ae3 : Nat} (e4 : nb_fd h a3 2 2 (.ref ae3)) {ve5 : Value} (re5 : re_R ve5) (e6 : nb_ar h ae3 103 x4 (ve5)) {c : Nat} {w : List Value} (eg : re_hg h ae1 = some (c, w)) (ec : c = 7) (K : wp SC 451 d 0 0 [(0, .ref ae1), (1, ve5)] [] h (wp_ret SC 519 (d + 1) s 105 [(0, .ref a0), (2, .ref a2), (3, .ref a3), (4, .int x4)] [] Q)) : wp SC 519 (d + 1) s 91 [(0, .ref a0), (2, .ref a2), (3, .ref a3), (4, .int x4)] [] h Q := by
  refine wp_run 1 (pc' := 92) (lv' := [(0, .ref a0), (2, .ref a2), (3, .ref a3), (4, .int x4)]) (st' := [.ref a0]) rfl ?_
  obtain ⟨w2, e2a, e2b⟩ := e2
  refine wp_gf ⟨rfl, rfl⟩ rfl e2a e2b ?_
  refine wp_run 1 (pc' := 96) (lv' := [(0, .ref a0), (2, .ref a2), (3, .ref a3), (4, .int x4)]) (st' := [.ref a3, .ref ae1]) rfl ?_
  obtain ⟨w4, e4a, e4b⟩ := e4
  refine wp_gf ⟨rfl, rfl⟩ rfl e4a e4b ?_
  refine wp_run 1 (pc' := 101) (lv' := [(0, .ref a0), (2, .ref a2), (3, .ref a3), (4, .int x4)]) (st' := [.int x4, .ref ae3, .ref ae1]) rfl ?_
  obtain ⟨w6, i6, e6a, e6x, e6i, e6v⟩ := e6
  refine wp_aal ⟨rfl, rfl⟩ e6a ⟨by decide, by decide⟩ e6x e6i e6v ?_
  have eA : lv_args 0 (.ref ae1 :: [ve5].reverse) = [(0, .ref ae1), (1, ve5)] := by simp [lv_args, vc_i, vc_l, vc_r, vc_n, vc_a, re_R_cat re5]
  refine wp_callV (ar := [ve5]) (rest := []) (s1 := 0) (s2 := s) (d' := d) ⟨rfl, rfl⟩ rfl (Or.inl rfl)  (by simp [re_cat, vc_i, vc_l, vc_r, vc_n, vc_a]) (by rw [show re_cat (.ref ae1 :: [ve5].reverse) = 2 from by simp [re_cat, vc_i, vc_l, vc_r, vc_n, vc_a, re_R_cat re5]]; decide) (by decide) rfl eg ec rfl (Nat.le_of_eq (Nat.zero_add s)) ?_
  rw [eA]
  exact wp_mono K (fun k v h' z => wp_ret_weak (re_sb_at rfl (re_sb_at rfl (re_sb_at rfl (re_sb_at rfl (re_sb_nil _))))) z)
set_option maxRecDepth 20000 in
theorem B519_105 {SC : List Value} {d s : Nat} {h : re_H} {Q : Nat → Value → re_H → Prop} {a0 : Nat} {a2 : Nat} {a3 : Nat} {x4 : Int32} {xs0 : Int32}
    (K1 : ¬ xs0 = 0 → wp SC 519 d s 115 [(0, .ref a0), (2, .ref a2), (3, .ref a3), (4, .int x4)] [] h Q) (K2 : xs0 = 0 → wp SC 519 d s 108 [(2, .ref a2)] [] h Q) : wp SC 519 d s 105 [(0, .ref a0), (2, .ref a2), (3, .ref a3), (4, .int x4)] [.int xs0] h Q := by
  exact wp_if ⟨rfl, rfl⟩ rfl (fun hc => wp_weak (re_sb_at rfl (re_sb_at rfl (re_sb_at rfl (re_sb_at rfl (re_sb_nil _))))) (K1 (ic1_ne hc))) (fun hc => wp_weak (re_sb_at rfl (re_sb_nil _)) (K2 (ic0_ne hc)))
set_option maxRecDepth 20000 in
theorem B519_108 {SC : List Value} {d s : Nat} {h : re_H} {Q : Nat → Value → re_H → Prop} {a2 : Nat}
    {c : Nat} {w : List Value} (eg : re_hg h a2 = some (c, w)) (ec : c = 5) (K : wp SC 326 d 0 0 [(0, .ref a2), (1, .int (i32 4))] [] h (wp_ret SC 519 (d + 1) s 113 [] [] Q)) : wp SC 519 (d + 1) s 108 [(2, .ref a2)] [] h Q := by
  refine wp_run 2 (pc' := 110) (lv' := [(2, .ref a2)]) (st' := [.int (i32 4), .ref a2]) rfl ?_
  have eA : lv_args 0 (.ref a2 :: [.int (i32 4)].reverse) = [(0, .ref a2), (1, .int (i32 4))] := by simp [lv_args, vc_i, vc_l, vc_r, vc_n, vc_a]
  refine wp_callV (ar := [.int (i32 4)]) (rest := []) (s1 := 0) (s2 := s) (d' := d) ⟨rfl, rfl⟩ rfl (Or.inl rfl)  (by simp [re_cat, vc_i, vc_l, vc_r, vc_n, vc_a]) (by rw [show re_cat (.ref a2 :: [.int (i32 4)].reverse) = 2 from by simp [re_cat, vc_i, vc_l, vc_r, vc_n, vc_a]]; decide) (by decide) rfl eg ec rfl (Nat.le_of_eq (Nat.zero_add s)) ?_
  rw [eA]
  exact wp_mono K (fun k v h' z => wp_ret_weak (re_sb_nil _) z)
set_option maxRecDepth 20000 in
theorem B519_113 {SC : List Value} {d s : Nat} {h : re_H} {Q : Nat → Value → re_H → Prop} 
    (K : Q 1 (.int (i32 1)) h) : wp SC 519 d s 113 [] [] h Q := by
  refine wp_run 1 (pc' := 114) (lv' := []) (st' := [.int (i32 1)]) rfl ?_
  exact wp_reti ⟨rfl, rfl⟩ rfl K
set_option maxRecDepth 20000 in
theorem B519_115 {SC : List Value} {d s : Nat} {h : re_H} {Q : Nat → Value → re_H → Prop} {a0 : Nat} {a2 : Nat} {a3 : Nat} {x4 : Int32}
    {ae1 : Nat} (e2 : nb_fd h a3 2 1 (.ref ae1)) {xe3 : Int32} (e4 : nb_ar h ae1 100 x4 (.int xe3)) {ae5 : Nat} (e6 : nb_fd h a0 8 2 (.ref ae5)) {c : Nat} {w : List Value} (eg : re_hg h ae5 = some (c, w)) (ec : c = 7) (K : wp SC 463 d 0 0 [(0, .ref ae5)] [] h (wp_ret SC 519 (d + 1) s 130 [(0, .ref a0), (2, .ref a2), (3, .ref a3), (4, .int x4)] [.int xe3, .ref a2] Q)) : wp SC 519 (d + 1) s 115 [(0, .ref a0), (2, .ref a2), (3, .ref a3), (4, .int x4)] [] h Q := by
  refine wp_run 2 (pc' := 117) (lv' := [(0, .ref a0), (2, .ref a2), (3, .ref a3), (4, .int x4)]) (st' := [.ref a3, .ref a2]) rfl ?_
  obtain ⟨w2, e2a, e2b⟩ := e2
  refine wp_gf ⟨rfl, rfl⟩ rfl e2a e2b ?_
  refine wp_run 1 (pc' := 122) (lv' := [(0, .ref a0), (2, .ref a2), (3, .ref a3), (4, .int x4)]) (st' := [.int x4, .ref ae1, .ref a2]) rfl ?_
  obtain ⟨w4, i4, e4a, e4x, e4i, e4v⟩ := e4
  refine wp_ial ⟨rfl, rfl⟩ e4a rfl e4x e4i e4v ?_
  refine wp_run 1 (pc' := 124) (lv' := [(0, .ref a0), (2, .ref a2), (3, .ref a3), (4, .int x4)]) (st' := [.ref a0, .int xe3, .ref a2]) rfl ?_
  obtain ⟨w6, e6a, e6b⟩ := e6
  refine wp_gf ⟨rfl, rfl⟩ rfl e6a e6b ?_
  have eA : lv_args 0 (.ref ae5 :: [].reverse) = [(0, .ref ae5)] := by simp [lv_args, vc_i, vc_l, vc_r, vc_n, vc_a]
  refine wp_callV (ar := []) (rest := [.int xe3, .ref a2]) (s1 := 0) (s2 := s) (d' := d) ⟨rfl, rfl⟩ rfl (Or.inl rfl)  (by simp [re_cat, vc_i, vc_l, vc_r, vc_n, vc_a]) (by rw [show re_cat (.ref ae5 :: [].reverse) = 1 from by simp [re_cat, vc_i, vc_l, vc_r, vc_n, vc_a]]; decide) (by decide) rfl eg ec rfl (Nat.le_of_eq (Nat.zero_add s)) ?_
  rw [eA]
  exact wp_mono K (fun k v h' z => wp_ret_weak (re_sb_at rfl (re_sb_at rfl (re_sb_at rfl (re_sb_at rfl (re_sb_nil _))))) z)
set_option maxRecDepth 20000 in
theorem B519_130 {SC : List Value} {d s : Nat} {h : re_H} {Q : Nat → Value → re_H → Prop} {a0 : Nat} {a2 : Nat} {a3 : Nat} {x4 : Int32} {ls0 : Int64} {xs1 : Int32} {as2 : Nat}
    {ae1 : Nat} (e2 : nb_fd h a0 8 2 (.ref ae1)) {c : Nat} {w : List Value} (eg : re_hg h ae1 = some (c, w)) (ec : c = 7) (K : wp SC 464 d 0 0 [(0, .ref ae1)] [] h (wp_ret SC 519 (d + 1) s 137 [(0, .ref a0), (2, .ref a2), (3, .ref a3), (4, .int x4)] [.long ls0, .int xs1, .ref as2] Q)) : wp SC 519 (d + 1) s 130 [(0, .ref a0), (2, .ref a2), (3, .ref a3), (4, .int x4)] [.long ls0, .int xs1, .ref as2] h Q := by
  refine wp_run 1 (pc' := 131) (lv' := [(0, .ref a0), (2, .ref a2), (3, .ref a3), (4, .int x4)]) (st' := [.ref a0, .long ls0, .int xs1, .ref as2]) rfl ?_
  obtain ⟨w2, e2a, e2b⟩ := e2
  refine wp_gf ⟨rfl, rfl⟩ rfl e2a e2b ?_
  have eA : lv_args 0 (.ref ae1 :: [].reverse) = [(0, .ref ae1)] := by simp [lv_args, vc_i, vc_l, vc_r, vc_n, vc_a]
  refine wp_callV (ar := []) (rest := [.long ls0, .int xs1, .ref as2]) (s1 := 0) (s2 := s) (d' := d) ⟨rfl, rfl⟩ rfl (Or.inl rfl)  (by simp [re_cat, vc_i, vc_l, vc_r, vc_n, vc_a]) (by rw [show re_cat (.ref ae1 :: [].reverse) = 1 from by simp [re_cat, vc_i, vc_l, vc_r, vc_n, vc_a]]; decide) (by decide) rfl eg ec rfl (Nat.le_of_eq (Nat.zero_add s)) ?_
  rw [eA]
  exact wp_mono K (fun k v h' z => wp_ret_weak (re_sb_at rfl (re_sb_at rfl (re_sb_at rfl (re_sb_at rfl (re_sb_nil _))))) z)
set_option maxRecDepth 20000 in
theorem B519_137 {SC : List Value} {d s : Nat} {h : re_H} {Q : Nat → Value → re_H → Prop} {a0 : Nat} {a2 : Nat} {a3 : Nat} {x4 : Int32} {vs0 : Value} (rs0 : re_R vs0) {ls1 : Int64} {xs2 : Int32} {as3 : Nat}
    {c : Nat} {w : List Value} (eg : re_hg h as3 = some (c, w)) (ec : c = 5) (K : wp SC 331 d 0 0 [(0, .ref as3), (1, .int xs2), (2, .long ls1), (4, vs0)] [] h (wp_ret SC 519 (d + 1) s 140 [(0, .ref a0), (2, .ref a2), (3, .ref a3), (4, .int x4)] [] Q)) : wp SC 519 (d + 1) s 137 [(0, .ref a0), (2, .ref a2), (3, .ref a3), (4, .int x4)] [vs0, .long ls1, .int xs2, .ref as3] h Q := by
  have eA : lv_args 0 (.ref as3 :: [vs0, .long ls1, .int xs2].reverse) = [(0, .ref as3), (1, .int xs2), (2, .long ls1), (4, vs0)] := by simp [lv_args, vc_i, vc_l, vc_r, vc_n, vc_a, re_R_cat rs0]
  refine wp_callV (ar := [vs0, .long ls1, .int xs2]) (rest := []) (s1 := 0) (s2 := s) (d' := d) ⟨rfl, rfl⟩ rfl (Or.inl rfl)  (by simp [re_cat, vc_i, vc_l, vc_r, vc_n, vc_a]) (by rw [show re_cat (.ref as3 :: [vs0, .long ls1, .int xs2].reverse) = 5 from by simp [re_cat, vc_i, vc_l, vc_r, vc_n, vc_a, re_R_cat rs0]]; decide) (by decide) rfl eg ec rfl (Nat.le_of_eq (Nat.zero_add s)) ?_
  rw [eA]
  exact wp_mono K (fun k v h' z => wp_ret_weak (re_sb_at rfl (re_sb_at rfl (re_sb_at rfl (re_sb_at rfl (re_sb_nil _))))) z)
set_option maxRecDepth 20000 in
theorem B519_140 {SC : List Value} {d s : Nat} {h : re_H} {Q : Nat → Value → re_H → Prop} {a0 : Nat} {a2 : Nat} {a3 : Nat} {x4 : Int32}
    {ae1 : Nat} (e2 : nb_fd h a0 8 2 (.ref ae1)) {ae3 : Nat} (e4 : nb_fd h a3 2 1 (.ref ae3)) {xe5 : Int32} (e6 : nb_ar h ae3 100 x4 (.int xe5)) {ae7 : Nat} (e8 : nb_fd h a0 8 2 (.ref ae7)) {c : Nat} {w : List Value} (eg : re_hg h ae7 = some (c, w)) (ec : c = 7) (K : wp SC 463 d 0 0 [(0, .ref ae7)] [] h (wp_ret SC 519 (d + 1) s 158 [(0, .ref a0), (2, .ref a2), (3, .ref a3), (4, .int x4)] [.int xe5, .ref ae1] Q)) : wp SC 519 (d + 1) s 140 [(0, .ref a0), (2, .ref a2), (3, .ref a3), (4, .int x4)] [] h Q := by
  refine wp_run 1 (pc' := 141) (lv' := [(0, .ref a0), (2, .ref a2), (3, .ref a3), (4, .int x4)]) (st' := [.ref a0]) rfl ?_
  obtain ⟨w2, e2a, e2b⟩ := e2
  refine wp_gf ⟨rfl, rfl⟩ rfl e2a e2b ?_
  refine wp_run 1 (pc' := 145) (lv' := [(0, .ref a0), (2, .ref a2), (3, .ref a3), (4, .int x4)]) (st' := [.ref a3, .ref ae1]) rfl ?_
  obtain ⟨w4, e4a, e4b⟩ := e4
  refine wp_gf ⟨rfl, rfl⟩ rfl e4a e4b ?_
  refine wp_run 1 (pc' := 150) (lv' := [(0, .ref a0), (2, .ref a2), (3, .ref a3), (4, .int x4)]) (st' := [.int x4, .ref ae3, .ref ae1]) rfl ?_
  obtain ⟨w6, i6, e6a, e6x, e6i, e6v⟩ := e6
  refine wp_ial ⟨rfl, rfl⟩ e6a rfl e6x e6i e6v ?_
  refine wp_run 1 (pc' := 152) (lv' := [(0, .ref a0), (2, .ref a2), (3, .ref a3), (4, .int x4)]) (st' := [.ref a0, .int xe5, .ref ae1]) rfl ?_
  obtain ⟨w8, e8a, e8b⟩ := e8
  refine wp_gf ⟨rfl, rfl⟩ rfl e8a e8b ?_
  have eA : lv_args 0 (.ref ae7 :: [].reverse) = [(0, .ref ae7)] := by simp [lv_args, vc_i, vc_l, vc_r, vc_n, vc_a]
  refine wp_callV (ar := []) (rest := [.int xe5, .ref ae1]) (s1 := 0) (s2 := s) (d' := d) ⟨rfl, rfl⟩ rfl (Or.inl rfl)  (by simp [re_cat, vc_i, vc_l, vc_r, vc_n, vc_a]) (by rw [show re_cat (.ref ae7 :: [].reverse) = 1 from by simp [re_cat, vc_i, vc_l, vc_r, vc_n, vc_a]]; decide) (by decide) rfl eg ec rfl (Nat.le_of_eq (Nat.zero_add s)) ?_
  rw [eA]
  exact wp_mono K (fun k v h' z => wp_ret_weak (re_sb_at rfl (re_sb_at rfl (re_sb_at rfl (re_sb_at rfl (re_sb_nil _))))) z)
set_option maxRecDepth 20000 in
theorem B519_158 {SC : List Value} {d s : Nat} {h : re_H} {Q : Nat → Value → re_H → Prop} {a0 : Nat} {a2 : Nat} {a3 : Nat} {x4 : Int32} {ls0 : Int64} {xs1 : Int32} {as2 : Nat}
    {ae1 : Nat} (e2 : nb_fd h a0 8 2 (.ref ae1)) {c : Nat} {w : List Value} (eg : re_hg h ae1 = some (c, w)) (ec : c = 7) (K : wp SC 464 d 0 0 [(0, .ref ae1)] [] h (wp_ret SC 519 (d + 1) s 165 [(0, .ref a0), (2, .ref a2), (3, .ref a3), (4, .int x4)] [.long ls0, .int xs1, .ref as2] Q)) : wp SC 519 (d + 1) s 158 [(0, .ref a0), (2, .ref a2), (3, .ref a3), (4, .int x4)] [.long ls0, .int xs1, .ref as2] h Q := by
  refine wp_run 1 (pc' := 159) (lv' := [(0, .ref a0), (2, .ref a2), (3, .ref a3), (4, .int x4)]) (st' := [.ref a0, .long ls0, .int xs1, .ref as2]) rfl ?_
  obtain ⟨w2, e2a, e2b⟩ := e2
  refine wp_gf ⟨rfl, rfl⟩ rfl e2a e2b ?_
  have eA : lv_args 0 (.ref ae1 :: [].reverse) = [(0, .ref ae1)] := by simp [lv_args, vc_i, vc_l, vc_r, vc_n, vc_a]
  refine wp_callV (ar := []) (rest := [.long ls0, .int xs1, .ref as2]) (s1 := 0) (s2 := s) (d' := d) ⟨rfl, rfl⟩ rfl (Or.inl rfl)  (by simp [re_cat, vc_i, vc_l, vc_r, vc_n, vc_a]) (by rw [show re_cat (.ref ae1 :: [].reverse) = 1 from by simp [re_cat, vc_i, vc_l, vc_r, vc_n, vc_a]]; decide) (by decide) rfl eg ec rfl (Nat.le_of_eq (Nat.zero_add s)) ?_
  rw [eA]
  exact wp_mono K (fun k v h' z => wp_ret_weak (re_sb_at rfl (re_sb_at rfl (re_sb_at rfl (re_sb_at rfl (re_sb_nil _))))) z)
set_option maxRecDepth 20000 in
theorem B519_165 {SC : List Value} {d s : Nat} {h : re_H} {Q : Nat → Value → re_H → Prop} {a0 : Nat} {a2 : Nat} {a3 : Nat} {x4 : Int32} {vs0 : Value} (rs0 : re_R vs0) {ls1 : Int64} {xs2 : Int32} {as3 : Nat}
    {c : Nat} {w : List Value} (eg : re_hg h as3 = some (c, w)) (ec : c = 7) (K : wp SC 450 d 0 0 [(0, .ref as3), (1, .int xs2), (2, .long ls1), (4, vs0)] [] h (wp_ret SC 519 (d + 1) s 168 [(0, .ref a0), (2, .ref a2), (3, .ref a3), (4, .int x4)] [] Q)) : wp SC 519 (d + 1) s 165 [(0, .ref a0), (2, .ref a2), (3, .ref a3), (4, .int x4)] [vs0, .long ls1, .int xs2, .ref as3] h Q := by
  have eA : lv_args 0 (.ref as3 :: [vs0, .long ls1, .int xs2].reverse) = [(0, .ref as3), (1, .int xs2), (2, .long ls1), (4, vs0)] := by simp [lv_args, vc_i, vc_l, vc_r, vc_n, vc_a, re_R_cat rs0]
  refine wp_callV (ar := [vs0, .long ls1, .int xs2]) (rest := []) (s1 := 0) (s2 := s) (d' := d) ⟨rfl, rfl⟩ rfl (Or.inl rfl)  (by simp [re_cat, vc_i, vc_l, vc_r, vc_n, vc_a]) (by rw [show re_cat (.ref as3 :: [vs0, .long ls1, .int xs2].reverse) = 5 from by simp [re_cat, vc_i, vc_l, vc_r, vc_n, vc_a, re_R_cat rs0]]; decide) (by decide) rfl eg ec rfl (Nat.le_of_eq (Nat.zero_add s)) ?_
  rw [eA]
  exact wp_mono K (fun k v h' z => wp_ret_weak (re_sb_at rfl (re_sb_at rfl (re_sb_at rfl (re_sb_at rfl (re_sb_nil _))))) z)
set_option maxRecDepth 20000 in
theorem B519_168 {SC : List Value} {d s : Nat} {h : re_H} {Q : Nat → Value → re_H → Prop} {a0 : Nat} {a2 : Nat} {a3 : Nat} {x4 : Int32}
    (K : wp SC 519 d s 82 [(0, .ref a0), (2, .ref a2), (3, .ref a3), (4, .int (x4 + (i32 1)))] [] h Q) : wp SC 519 d s 168 [(0, .ref a0), (2, .ref a2), (3, .ref a3), (4, .int x4)] [] h Q := by
  refine wp_run 2 (pc' := 82) (lv' := [(4, .int (x4 + (i32 1))), (0, .ref a0), (2, .ref a2), (3, .ref a3)]) (st' := []) rfl ?_
  exact wp_weak (re_sb_at rfl (re_sb_at rfl (re_sb_at rfl (re_sb_at rfl (re_sb_nil _))))) K
set_option maxRecDepth 20000 in
theorem B519_174 {SC : List Value} {d s : Nat} {h : re_H} {Q : Nat → Value → re_H → Prop} 
    (K : Q 1 (.int (i32 1)) h) : wp SC 519 d s 174 [] [] h Q := by
  refine wp_run 1 (pc' := 175) (lv' := []) (st' := [.int (i32 1)]) rfl ?_
  exact wp_reti ⟨rfl, rfl⟩ rfl K
set_option maxRecDepth 20000 in
theorem B520_0 {SC : List Value} {d s : Nat} {h : re_H} {Q : Nat → Value → re_H → Prop} {a0 : Nat} {x1 : Int32} {a2 : Nat}
    (K : wp SC 520 d s 5 [(0, .ref a0), (1, .int x1), (2, .ref a2), (3, .int (i32 1)), (4, .int (i32 0))] [] h Q) : wp SC 520 d s 0 [(0, .ref a0), (1, .int x1), (2, .ref a2)] [] h Q := by
  refine wp_run 4 (pc' := 5) (lv' := [(4, .int (i32 0)), (3, .int (i32 1)), (0, .ref a0), (1, .int x1), (2, .ref a2)]) (st' := []) rfl ?_
  exact wp_weak (re_sb_at rfl (re_sb_at rfl (re_sb_at rfl (re_sb_at rfl (re_sb_at rfl (re_sb_nil _)))))) K
set_option maxRecDepth 20000 in
theorem B520_5 {SC : List Value} {d s : Nat} {h : re_H} {Q : Nat → Value → re_H → Prop} {a0 : Nat} {x1 : Int32} {a2 : Nat} {x3 : Int32} {x4 : Int32}
    (K1 : ¬ x4 < (i32 16) → wp SC 520 d s 111 [(3, .int x3)] [] h Q) (K2 : x4 < (i32 16) → wp SC 520 d s 12 [(0, .ref a0), (1, .int x1), (2, .ref a2), (3, .int x3), (4, .int x4)] [] h Q) : wp SC 520 d s 5 [(0, .ref a0), (1, .int x1), (2, .ref a2), (3, .int x3), (4, .int x4)] [] h Q := by
  refine wp_run 1 (pc' := 7) (lv' := [(0, .ref a0), (1, .int x1), (2, .ref a2), (3, .int x3), (4, .int x4)]) (st' := [.int x4]) rfl ?_
  refine wp_bi (x := (i32 16)) ⟨rfl, rfl⟩ (by decide) ?_
  exact wp_cmp ⟨rfl, rfl⟩ rfl (fun hc => wp_weak (re_sb_at rfl (re_sb_nil _)) (K1 (ic1_ge hc))) (fun hc => wp_weak (re_sb_at rfl (re_sb_at rfl (re_sb_at rfl (re_sb_at rfl (re_sb_at rfl (re_sb_nil _)))))) (K2 (ic0_ge hc)))
set_option maxRecDepth 20000 in
theorem B520_12 {SC : List Value} {d s : Nat} {h : re_H} {Q : Nat → Value → re_H → Prop} {a0 : Nat} {x1 : Int32} {a2 : Nat} {x3 : Int32} {x4 : Int32}
    {ae1 : Nat} (e2 : nb_fd h a0 8 1 (.ref ae1)) {ae3 : Nat} (e4 : nb_fd h ae1 3 3 (.ref ae3)) {xe5 : Int32} (e6 : nb_ar h ae3 100 x1 (.int xe5)) (K1 : ¬ ((xe5 >>> (x4 &&& 31)) &&& (i32 1)) = 0 → wp SC 520 d s 32 [(0, .ref a0), (1, .int x1), (2, .ref a2), (3, .int x3), (4, .int x4)] [] h Q) (K2 : ((xe5 >>> (x4 &&& 31)) &&& (i32 1)) = 0 → wp SC 520 d s 29 [(0, .ref a0), (1, .int x1), (2, .ref a2), (3, .int x3), (4, .int x4)] [] h Q) : wp SC 520 d s 12 [(0, .ref a0), (1, .int x1), (2, .ref a2), (3, .int x3), (4, .int x4)] [] h Q := by
  refine wp_run 1 (pc' := 13) (lv' := [(0, .ref a0), (1, .int x1), (2, .ref a2), (3, .int x3), (4, .int x4)]) (st' := [.ref a0]) rfl ?_
  obtain ⟨w2, e2a, e2b⟩ := e2
  refine wp_gf ⟨rfl, rfl⟩ rfl e2a e2b ?_
  obtain ⟨w4, e4a, e4b⟩ := e4
  refine wp_gf ⟨rfl, rfl⟩ rfl e4a e4b ?_
  refine wp_run 1 (pc' := 20) (lv' := [(0, .ref a0), (1, .int x1), (2, .ref a2), (3, .int x3), (4, .int x4)]) (st' := [.int x1, .ref ae3]) rfl ?_
  obtain ⟨w6, i6, e6a, e6x, e6i, e6v⟩ := e6
  refine wp_ial ⟨rfl, rfl⟩ e6a rfl e6x e6i e6v ?_
  refine wp_run 4 (pc' := 26) (lv' := [(0, .ref a0), (1, .int x1), (2, .ref a2), (3, .int x3), (4, .int x4)]) (st' := [.int ((xe5 >>> (x4 &&& 31)) &&& (i32 1))]) rfl ?_
  exact wp_if ⟨rfl, rfl⟩ rfl (fun hc => wp_weak (re_sb_at rfl (re_sb_at rfl (re_sb_at rfl (re_sb_at rfl (re_sb_at rfl (re_sb_nil _)))))) (K1 (ic1_ne hc))) (fun hc => wp_weak (re_sb_at rfl (re_sb_at rfl (re_sb_at rfl (re_sb_at rfl (re_sb_at rfl (re_sb_nil _)))))) (K2 (ic0_ne hc)))
set_option maxRecDepth 20000 in
theorem B520_29 {SC : List Value} {d s : Nat} {h : re_H} {Q : Nat → Value → re_H → Prop} {a0 : Nat} {x1 : Int32} {a2 : Nat} {x3 : Int32} {x4 : Int32}
    (K : wp SC 520 d s 105 [(0, .ref a0), (1, .int x1), (2, .ref a2), (3, .int x3), (4, .int x4)] [] h Q) : wp SC 520 d s 29 [(0, .ref a0), (1, .int x1), (2, .ref a2), (3, .int x3), (4, .int x4)] [] h Q := by
  refine wp_run 1 (pc' := 105) (lv' := [(0, .ref a0), (1, .int x1), (2, .ref a2), (3, .int x3), (4, .int x4)]) (st' := []) rfl ?_
  exact wp_weak (re_sb_at rfl (re_sb_at rfl (re_sb_at rfl (re_sb_at rfl (re_sb_at rfl (re_sb_nil _)))))) K
set_option maxRecDepth 20000 in
theorem B520_32 {SC : List Value} {d s : Nat} {h : re_H} {Q : Nat → Value → re_H → Prop} {a0 : Nat} {x1 : Int32} {a2 : Nat} {x3 : Int32} {x4 : Int32}
    {c : Nat} {w : List Value} (eg : re_hg h a0 = some (c, w)) (ec : c = 8) (K : wp SC 516 d 0 0 [(0, .ref a0), (1, .int x4)] [] h (wp_ret SC 520 (d + 1) s 38 [(0, .ref a0), (1, .int x1), (2, .ref a2), (3, .int x3), (4, .int x4)] [] Q)) : wp SC 520 (d + 1) s 32 [(0, .ref a0), (1, .int x1), (2, .ref a2), (3, .int x3), (4, .int x4)] [] h Q := by
  refine wp_run 2 (pc' := 35) (lv' := [(0, .ref a0), (1, .int x1), (2, .ref a2), (3, .int x3), (4, .int x4)]) (st' := [.int x4, .ref a0]) rfl ?_
  have eA : lv_args 0 (.ref a0 :: [.int x4].reverse) = [(0, .ref a0), (1, .int x4)] := by simp [lv_args, vc_i, vc_l, vc_r, vc_n, vc_a]
  refine wp_callV (ar := [.int x4]) (rest := []) (s1 := 0) (s2 := s) (d' := d) ⟨rfl, rfl⟩ rfl (Or.inl rfl)  (by simp [re_cat, vc_i, vc_l, vc_r, vc_n, vc_a]) (by rw [show re_cat (.ref a0 :: [.int x4].reverse) = 2 from by simp [re_cat, vc_i, vc_l, vc_r, vc_n, vc_a]]; decide) (by decide) rfl eg ec rfl (Nat.le_of_eq (Nat.zero_add s)) ?_
  rw [eA]
  exact wp_mono K (fun k v h' z => wp_ret_weak (re_sb_at rfl (re_sb_at rfl (re_sb_at rfl (re_sb_at rfl (re_sb_at rfl (re_sb_nil _)))))) z)
set_option maxRecDepth 20000 in
theorem B520_38 {SC : List Value} {d s : Nat} {h : re_H} {Q : Nat → Value → re_H → Prop} {a0 : Nat} {x1 : Int32} {a2 : Nat} {x3 : Int32} {x4 : Int32} {vs0 : Value} (rs0 : re_R vs0)
    {c : Nat} {w : List Value} (eg : re_hg h a0 = some (c, w)) (ec : c = 8) (K : wp SC 517 d 0 0 [(0, .ref a0), (1, vs0), (2, .int x4)] [] h (wp_ret SC 520 (d + 1) s 51 [(0, .ref a0), (1, .int x1), (2, .ref a2), (3, .int x3), (4, .int x4), (5, vs0)] [.int x4, .ref a2] Q)) : wp SC 520 (d + 1) s 38 [(0, .ref a0), (1, .int x1), (2, .ref a2), (3, .int x3), (4, .int x4)] [vs0] h Q := by
  refine wp_asR (ins := .astore 5) (k := 5) (pc' := 40) (lv' := [(5, vs0), (0, .ref a0), (1, .int x1), (2, .ref a2), (3, .int x3), (4, .int x4)]) ⟨rfl, rfl⟩ (Or.inl ⟨_, rfl, rfl, rfl⟩) (by decide) rs0 rfl ?_
  refine wp_run 3 (pc' := 44) (lv' := [(5, vs0), (0, .ref a0), (1, .int x1), (2, .ref a2), (3, .int x3), (4, .int x4)]) (st' := [.ref a0, .int x4, .ref a2]) rfl ?_
  refine wp_alR (ins := .aload 5) (k := 5) (pc' := 46) ⟨rfl, rfl⟩ (Or.inl ⟨_, rfl, rfl, rfl⟩) rfl rs0 ?_
  refine wp_run 1 (pc' := 48) (lv' := [(5, vs0), (0, .ref a0), (1, .int x1), (2, .ref a2), (3, .int x3), (4, .int x4)]) (st' := [.int x4, vs0, .ref a0, .int x4, .ref a2]) rfl ?_
  have eA : lv_args 0 (.ref a0 :: [.int x4, vs0].reverse) = [(0, .ref a0), (1, vs0), (2, .int x4)] := by simp [lv_args, vc_i, vc_l, vc_r, vc_n, vc_a, re_R_cat rs0]
  refine wp_callV (ar := [.int x4, vs0]) (rest := [.int x4, .ref a2]) (s1 := 0) (s2 := s) (d' := d) ⟨rfl, rfl⟩ rfl (Or.inl rfl)  (by simp [re_cat, vc_i, vc_l, vc_r, vc_n, vc_a]) (by rw [show re_cat (.ref a0 :: [.int x4, vs0].reverse) = 3 from by simp [re_cat, vc_i, vc_l, vc_r, vc_n, vc_a, re_R_cat rs0]]; decide) (by decide) rfl eg ec rfl (Nat.le_of_eq (Nat.zero_add s)) ?_
  rw [eA]
  exact wp_mono K (fun k v h' z => wp_ret_weak (re_sb_at rfl (re_sb_at rfl (re_sb_at rfl (re_sb_at rfl (re_sb_at rfl (re_sb_at rfl (re_sb_nil _))))))) z)
set_option maxRecDepth 20000 in
theorem B520_51 {SC : List Value} {d s : Nat} {h : re_H} {Q : Nat → Value → re_H → Prop} {a0 : Nat} {x1 : Int32} {a2 : Nat} {x3 : Int32} {x4 : Int32} {v5 : Value} (r5 : re_R v5) {xs0 : Int32} {xs1 : Int32} {as2 : Nat}
    {c : Nat} {w : List Value} (eg : re_hg h a0 = some (c, w)) (ec : c = 8) (K : wp SC 518 d 0 0 [(0, .ref a0), (1, v5), (2, .int x4)] [] h (wp_ret SC 520 (d + 1) s 59 [(0, .ref a0), (1, .int x1), (2, .ref a2), (3, .int x3), (4, .int x4), (5, v5)] [.int xs0, .int xs1, .ref as2] Q)) : wp SC 520 (d + 1) s 51 [(0, .ref a0), (1, .int x1), (2, .ref a2), (3, .int x3), (4, .int x4), (5, v5)] [.int xs0, .int xs1, .ref as2] h Q := by
  refine wp_run 1 (pc' := 52) (lv' := [(0, .ref a0), (1, .int x1), (2, .ref a2), (3, .int x3), (4, .int x4), (5, v5)]) (st' := [.ref a0, .int xs0, .int xs1, .ref as2]) rfl ?_
  refine wp_alR (ins := .aload 5) (k := 5) (pc' := 54) ⟨rfl, rfl⟩ (Or.inl ⟨_, rfl, rfl, rfl⟩) rfl r5 ?_
  refine wp_run 1 (pc' := 56) (lv' := [(0, .ref a0), (1, .int x1), (2, .ref a2), (3, .int x3), (4, .int x4), (5, v5)]) (st' := [.int x4, v5, .ref a0, .int xs0, .int xs1, .ref as2]) rfl ?_
  have eA : lv_args 0 (.ref a0 :: [.int x4, v5].reverse) = [(0, .ref a0), (1, v5), (2, .int x4)] := by simp [lv_args, vc_i, vc_l, vc_r, vc_n, vc_a, re_R_cat r5]
  refine wp_callV (ar := [.int x4, v5]) (rest := [.int xs0, .int xs1, .ref as2]) (s1 := 0) (s2 := s) (d' := d) ⟨rfl, rfl⟩ rfl (Or.inl rfl)  (by simp [re_cat, vc_i, vc_l, vc_r, vc_n, vc_a]) (by rw [show re_cat (.ref a0 :: [.int x4, v5].reverse) = 3 from by simp [re_cat, vc_i, vc_l, vc_r, vc_n, vc_a, re_R_cat r5]]; decide) (by decide) rfl eg ec rfl (Nat.le_of_eq (Nat.zero_add s)) ?_
  rw [eA]
  exact wp_mono K (fun k v h' z => wp_ret_weak (re_sb_at rfl (re_sb_at rfl (re_sb_at rfl (re_sb_at rfl (re_sb_at rfl (re_sb_at rfl (re_sb_nil _))))))) z)
set_option maxRecDepth 20000 in
theorem B520_59 {SC : List Value} {d s : Nat} {h : re_H} {Q : Nat → Value → re_H → Prop} {a0 : Nat} {x1 : Int32} {a2 : Nat} {x3 : Int32} {x4 : Int32} {v5 : Value} (r5 : re_R v5) {ls0 : Int64} {xs1 : Int32} {xs2 : Int32} {as3 : Nat}
    {c : Nat} {w : List Value} (eg : re_hg h as3 = some (c, w)) (ec : c = 5) (K : wp SC 329 d 0 0 [(0, .ref as3), (1, .int xs2), (2, .int xs1), (3, .long ls0)] [] h (wp_ret SC 520 (d + 1) s 62 [(0, .ref a0), (1, .int x1), (2, .ref a2), (3, .int x3), (4, .int x4), (5, v5)] [] Q)) : wp SC 520 (d + 1) s 59 [(0, .ref a0), (1, .int x1), (2, .ref a2), (3, .int x3), (4, .int x4), (5, v5)] [.long ls0, .int xs1, .int xs2, .ref as3] h Q := by
  have eA : lv_args 0 (.ref as3 :: [.long ls0, .int xs1, .int xs2].reverse) = [(0, .ref as3), (1, .int xs2), (2, .int xs1), (3, .long ls0)] := by simp [lv_args, vc_i, vc_l, vc_r, vc_n, vc_a]
  refine wp_callV (ar := [.long ls0, .int xs1, .int xs2]) (rest := []) (s1 := 0) (s2 := s) (d' := d) ⟨rfl, rfl⟩ rfl (Or.inl rfl)  (by simp [re_cat, vc_i, vc_l, vc_r, vc_n, vc_a]) (by rw [show re_cat (.ref as3 :: [.long ls0, .int xs1, .int xs2].reverse) = 5 from by simp [re_cat, vc_i, vc_l, vc_r, vc_n, vc_a]]; decide) (by decide) rfl eg ec rfl (Nat.le_of_eq (Nat.zero_add s)) ?_
  rw [eA]
  exact wp_mono K (fun k v h' z => wp_ret_weak (re_sb_at rfl (re_sb_at rfl (re_sb_at rfl (re_sb_at rfl (re_sb_at rfl (re_sb_at rfl (re_sb_nil _))))))) z)
set_option maxRecDepth 20000 in
theorem B520_62 {SC : List Value} {d s : Nat} {h : re_H} {Q : Nat → Value → re_H → Prop} {a0 : Nat} {x1 : Int32} {a2 : Nat} {x3 : Int32} {x4 : Int32} {v5 : Value} (r5 : re_R v5)
    (K1 : v5 = .null → wp SC 520 d s 77 [(0, .ref a0), (1, .int x1), (2, .ref a2), (4, .int x4)] [] h Q) (K2 : ∀ b1, v5 = .ref b1 → wp SC 520 d s 67 [(0, .ref a0), (1, .int x1), (2, .ref a2), (3, .int x3), (4, .int x4), (5, .ref b1)] [] h Q) : wp SC 520 d s 62 [(0, .ref a0), (1, .int x1), (2, .ref a2), (3, .int x3), (4, .int x4), (5, v5)] [] h Q := by
  refine wp_alR (ins := .aload 5) (k := 5) (pc' := 64) ⟨rfl, rfl⟩ (Or.inl ⟨_, rfl, rfl, rfl⟩) rfl r5 ?_
  exact wp_ifn ⟨rfl, rfl⟩ rfl r5 (fun hc => by subst hc; exact wp_weak (re_sb_at rfl (re_sb_at rfl (re_sb_at rfl (re_sb_at rfl (re_sb_nil _))))) (K1 rfl)) (fun bb hc => by subst hc; exact wp_weak (re_sb_at rfl (re_sb_at rfl (re_sb_at rfl (re_sb_at rfl (re_sb_at rfl (re_sb_at rfl (re_sb_nil _))))))) (K2 bb rfl))
set_option maxRecDepth 20000 in
theorem B520_67 {SC : List Value} {d s : Nat} {h : re_H} {Q : Nat → Value → re_H → Prop} {a0 : Nat} {x1 : Int32} {a2 : Nat} {x3 : Int32} {x4 : Int32} {a5 : Nat}
    {c : Nat} {w : List Value} (eg : re_hg h a5 = some (c, w)) (ec : c = 5) (K : wp SC 322 d 0 0 [(0, .ref a5), (1, .int x4)] [] h (wp_ret SC 520 (d + 1) s 74 [(0, .ref a0), (1, .int x1), (2, .ref a2), (3, .int x3), (4, .int x4), (5, .ref a5)] [] Q)) : wp SC 520 (d + 1) s 67 [(0, .ref a0), (1, .int x1), (2, .ref a2), (3, .int x3), (4, .int x4), (5, .ref a5)] [] h Q := by
  refine wp_run 2 (pc' := 71) (lv' := [(0, .ref a0), (1, .int x1), (2, .ref a2), (3, .int x3), (4, .int x4), (5, .ref a5)]) (st' := [.int x4, .ref a5]) rfl ?_
  have eA : lv_args 0 (.ref a5 :: [.int x4].reverse) = [(0, .ref a5), (1, .int x4)] := by simp [lv_args, vc_i, vc_l, vc_r, vc_n, vc_a]
  refine wp_callV (ar := [.int x4]) (rest := []) (s1 := 0) (s2 := s) (d' := d) ⟨rfl, rfl⟩ rfl (Or.inl rfl)  (by simp [re_cat, vc_i, vc_l, vc_r, vc_n, vc_a]) (by rw [show re_cat (.ref a5 :: [.int x4].reverse) = 2 from by simp [re_cat, vc_i, vc_l, vc_r, vc_n, vc_a]]; decide) (by decide) rfl eg ec rfl (Nat.le_of_eq (Nat.zero_add s)) ?_
  rw [eA]
  exact wp_mono K (fun k v h' z => wp_ret_weak (re_sb_at rfl (re_sb_at rfl (re_sb_at rfl (re_sb_at rfl (re_sb_at rfl (re_sb_at rfl (re_sb_nil _))))))) z)
set_option maxRecDepth 20000 in
theorem B520_74 {SC : List Value} {d s : Nat} {h : re_H} {Q : Nat → Value → re_H → Prop} {a0 : Nat} {x1 : Int32} {a2 : Nat} {x3 : Int32} {x4 : Int32} {a5 : Nat} {xs0 : Int32}
    (K1 : ¬ xs0 = 0 → wp SC 520 d s 82 [(0, .ref a0), (1, .int x1), (2, .ref a2), (3, .int x3), (4, .int x4), (5, .ref a5)] [] h Q) (K2 : xs0 = 0 → wp SC 520 d s 77 [(0, .ref a0), (1, .int x1), (2, .ref a2), (4, .int x4)] [] h Q) : wp SC 520 d s 74 [(0, .ref a0), (1, .int x1), (2, .ref a2), (3, .int x3), (4, .int x4), (5, .ref a5)] [.int xs0] h Q := by
  exact wp_if ⟨rfl, rfl⟩ rfl (fun hc => wp_weak (re_sb_at rfl (re_sb_at rfl (re_sb_at rfl (re_sb_at rfl (re_sb_at rfl (re_sb_at rfl (re_sb_nil _))))))) (K1 (ic1_ne hc))) (fun hc => wp_weak (re_sb_at rfl (re_sb_at rfl (re_sb_at rfl (re_sb_at rfl (re_sb_nil _))))) (K2 (ic0_ne hc)))
set_option maxRecDepth 20000 in
theorem B520_77 {SC : List Value} {d s : Nat} {h : re_H} {Q : Nat → Value → re_H → Prop} {a0 : Nat} {x1 : Int32} {a2 : Nat} {x4 : Int32}
    (K : wp SC 520 d s 105 [(0, .ref a0), (1, .int x1), (2, .ref a2), (3, .int (i32 0)), (4, .int x4)] [] h Q) : wp SC 520 d s 77 [(0, .ref a0), (1, .int x1), (2, .ref a2), (4, .int x4)] [] h Q := by
  refine wp_run 3 (pc' := 105) (lv' := [(3, .int (i32 0)), (0, .ref a0), (1, .int x1), (2, .ref a2), (4, .int x4)]) (st' := []) rfl ?_
  exact wp_weak (re_sb_at rfl (re_sb_at rfl (re_sb_at rfl (re_sb_at rfl (re_sb_at rfl (re_sb_nil _)))))) K
set_option maxRecDepth 20000 in
theorem B520_82 {SC : List Value} {d s : Nat} {h : re_H} {Q : Nat → Value → re_H → Prop} {a0 : Nat} {x1 : Int32} {a2 : Nat} {x3 : Int32} {x4 : Int32} {a5 : Nat}
    {ae1 : Nat} (e2 : nb_fd h a0 8 2 (.ref ae1)) {c : Nat} {w : List Value} (eg : re_hg h a5 = some (c, w)) (ec : c = 5) (K : wp SC 324 d 0 0 [(0, .ref a5), (1, .int x4)] [] h (wp_ret SC 520 (d + 1) s 95 [(0, .ref a0), (1, .int x1), (2, .ref a2), (3, .int x3), (4, .int x4), (5, .ref a5)] [.int x4, .ref ae1] Q)) : wp SC 520 (d + 1) s 82 [(0, .ref a0), (1, .int x1), (2, .ref a2), (3, .int x3), (4, .int x4), (5, .ref a5)] [] h Q := by
  refine wp_run 1 (pc' := 83) (lv' := [(0, .ref a0), (1, .int x1), (2, .ref a2), (3, .int x3), (4, .int x4), (5, .ref a5)]) (st' := [.ref a0]) rfl ?_
  obtain ⟨w2, e2a, e2b⟩ := e2
  refine wp_gf ⟨rfl, rfl⟩ rfl e2a e2b ?_
  refine wp_run 3 (pc' := 92) (lv' := [(0, .ref a0), (1, .int x1), (2, .ref a2), (3, .int x3), (4, .int x4), (5, .ref a5)]) (st' := [.int x4, .ref a5, .int x4, .ref ae1]) rfl ?_
  have eA : lv_args 0 (.ref a5 :: [.int x4].reverse) = [(0, .ref a5), (1, .int x4)] := by simp [lv_args, vc_i, vc_l, vc_r, vc_n, vc_a]
  refine wp_callV (ar := [.int x4]) (rest := [.int x4, .ref ae1]) (s1 := 0) (s2 := s) (d' := d) ⟨rfl, rfl⟩ rfl (Or.inl rfl)  (by simp [re_cat, vc_i, vc_l, vc_r, vc_n, vc_a]) (by rw [show re_cat (.ref a5 :: [.int x4].reverse) = 2 from by simp [re_cat, vc_i, vc_l, vc_r, vc_n, vc_a]]; decide) (by decide) rfl eg ec rfl (Nat.le_of_eq (Nat.zero_add s)) ?_
  rw [eA]
  exact wp_mono K (fun k v h' z => wp_ret_weak (re_sb_at rfl (re_sb_at rfl (re_sb_at rfl (re_sb_at rfl (re_sb_at rfl (re_sb_at rfl (re_sb_nil _))))))) z)
set_option maxRecDepth 20000 in
theorem B520_95 {SC : List Value} {d s : Nat} {h : re_H} {Q : Nat → Value → re_H → Prop} {a0 : Nat} {x1 : Int32} {a2 : Nat} {x3 : Int32} {x4 : Int32} {a5 : Nat} {ls0 : Int64} {xs1 : Int32} {as2 : Nat}
    {c : Nat} {w : List Value} (eg : re_hg h a5 = some (c, w)) (ec : c = 5) (K : wp SC 330 d 0 0 [(0, .ref a5), (1, .int x4)] [] h (wp_ret SC 520 (d + 1) s 102 [(0, .ref a0), (1, .int x1), (2, .ref a2), (3, .int x3), (4, .int x4)] [.long ls0, .int xs1, .ref as2] Q)) : wp SC 520 (d + 1) s 95 [(0, .ref a0), (1, .int x1), (2, .ref a2), (3, .int x3), (4, .int x4), (5, .ref a5)] [.long ls0, .int xs1, .ref as2] h Q := by
  refine wp_run 2 (pc' := 99) (lv' := [(0, .ref a0), (1, .int x1), (2, .ref a2), (3, .int x3), (4, .int x4), (5, .ref a5)]) (st' := [.int x4, .ref a5, .long ls0, .int xs1, .ref as2]) rfl ?_
  have eA : lv_args 0 (.ref a5 :: [.int x4].reverse) = [(0, .ref a5), (1, .int x4)] := by simp [lv_args, vc_i, vc_l, vc_r, vc_n, vc_a]
  refine wp_callV (ar := [.int x4]) (rest := [.long ls0, .int xs1, .ref as2]) (s1 := 0) (s2 := s) (d' := d) ⟨rfl, rfl⟩ rfl (Or.inl rfl)  (by simp [re_cat, vc_i, vc_l, vc_r, vc_n, vc_a]) (by rw [show re_cat (.ref a5 :: [.int x4].reverse) = 2 from by simp [re_cat, vc_i, vc_l, vc_r, vc_n, vc_a]]; decide) (by decide) rfl eg ec rfl (Nat.le_of_eq (Nat.zero_add s)) ?_
  rw [eA]
  exact wp_mono K (fun k v h' z => wp_ret_weak (re_sb_at rfl (re_sb_at rfl (re_sb_at rfl (re_sb_at rfl (re_sb_at rfl (re_sb_nil _)))))) z)
set_option maxRecDepth 20000 in
theorem B520_102 {SC : List Value} {d s : Nat} {h : re_H} {Q : Nat → Value → re_H → Prop} {a0 : Nat} {x1 : Int32} {a2 : Nat} {x3 : Int32} {x4 : Int32} {vs0 : Value} (rs0 : re_R vs0) {ls1 : Int64} {xs2 : Int32} {as3 : Nat}
    {c : Nat} {w : List Value} (eg : re_hg h as3 = some (c, w)) (ec : c = 7) (K : wp SC 450 d 0 0 [(0, .ref as3), (1, .int xs2), (2, .long ls1), (4, vs0)] [] h (wp_ret SC 520 (d + 1) s 105 [(0, .ref a0), (1, .int x1), (2, .ref a2), (3, .int x3), (4, .int x4)] [] Q)) : wp SC 520 (d + 1) s 102 [(0, .ref a0), (1, .int x1), (2, .ref a2), (3, .int x3), (4, .int x4)] [vs0, .long ls1, .int xs2, .ref as3] h Q := by
  have eA : lv_args 0 (.ref as3 :: [vs0, .long ls1, .int xs2].reverse) = [(0, .ref as3), (1, .int xs2), (2, .long ls1), (4, vs0)] := by simp [lv_args, vc_i, vc_l, vc_r, vc_n, vc_a, re_R_cat rs0]
  refine wp_callV (ar := [vs0, .long ls1, .int xs2]) (rest := []) (s1 := 0) (s2 := s) (d' := d) ⟨rfl, rfl⟩ rfl (Or.inl rfl)  (by simp [re_cat, vc_i, vc_l, vc_r, vc_n, vc_a]) (by rw [show re_cat (.ref as3 :: [vs0, .long ls1, .int xs2].reverse) = 5 from by simp [re_cat, vc_i, vc_l, vc_r, vc_n, vc_a, re_R_cat rs0]]; decide) (by decide) rfl eg ec rfl (Nat.le_of_eq (Nat.zero_add s)) ?_
  rw [eA]
  exact wp_mono K (fun k v h' z => wp_ret_weak (re_sb_at rfl (re_sb_at rfl (re_sb_at rfl (re_sb_at rfl (re_sb_at rfl (re_sb_nil _)))))) z)
set_option maxRecDepth 20000 in
theorem B520_105 {SC : List Value} {d s : Nat} {h : re_H} {Q : Nat → Value → re_H → Prop} {a0 : Nat} {x1 : Int32} {a2 : Nat} {x3 : Int32} {x4 : Int32}
    (K : wp SC 520 d s 5 [(0, .ref a0), (1, .int x1), (2, .ref a2), (3, .int x3), (4, .int (x4 + (i32 1)))] [] h Q) : wp SC 520 d s 105 [(0, .ref a0), (1, .int x1), (2, .ref a2), (3, .int x3), (4, .int x4)] [] h Q := by
  refine wp_run 2 (pc' := 5) (lv' := [(4, .int (x4 + (i32 1))), (0, .ref a0), (1, .int x1), (2, .ref a2), (3, .int x3)]) (st' := []) rfl ?_
  exact wp_weak (re_sb_at rfl (re_sb_at rfl (re_sb_at rfl (re_sb_at rfl (re_sb_at rfl (re_sb_nil _)))))) K
set_option maxRecDepth 20000 in
theorem B520_111 {SC : List Value} {d s : Nat} {h : re_H} {Q : Nat → Value → re_H → Prop} {x3 : Int32}
    (hz : x3 = 0 ∨ x3 = 1) (K : Q 1 (.int x3) h) : wp SC 520 d s 111 [(3, .int x3)] [] h Q := by
  refine wp_run 1 (pc' := 112) (lv' := [(3, .int x3)]) (st' := [.int x3]) rfl ?_
  exact wp_retz ⟨rfl, rfl⟩ rfl hz K
theorem B521_0 {SC : List Value} {d s : Nat} {h : re_H} {Q : Nat → Value → re_H → Prop} {a0 : Nat} {x1 : Int32}
    {c : Nat} {w : List Value} (eg : re_hg h a0 = some (c, w)) (ec : c = 8) (K : wp SC 515 d 0 0 [(0, .ref a0), (1, .int x1)] [] h (wp_ret SC 521 (d + 1) s 5 [] [] Q)) : wp SC 521 (d + 1) s 0 [(0, .ref a0), (1, .int x1)] [] h Q := by
  refine wp_run 2 (pc' := 2) (lv' := [(0, .ref a0), (1, .int x1)]) (st' := [.int x1, .ref a0]) rfl ?_
  have eA : lv_args 0 (.ref a0 :: [.int x1].reverse) = [(0, .ref a0), (1, .int x1)] := by simp [lv_args, vc_i, vc_l, vc_r, vc_n, vc_a]
  refine wp_callV (ar := [.int x1]) (rest := []) (s1 := 0) (s2 := s) (d' := d) ⟨rfl, rfl⟩ rfl (Or.inl rfl)  (by simp [re_cat, vc_i, vc_l, vc_r, vc_n, vc_a]) (by rw [show re_cat (.ref a0 :: [.int x1].reverse) = 2 from by simp [re_cat, vc_i, vc_l, vc_r, vc_n, vc_a]]; decide) (by decide) rfl eg ec rfl (Nat.le_of_eq (Nat.zero_add s)) ?_
  rw [eA]
  exact wp_mono K (fun k v h' z => wp_ret_weak (re_sb_nil _) z)
theorem B521_5 {SC : List Value} {d s : Nat} {h : re_H} {Q : Nat → Value → re_H → Prop} {as0 : Nat}
    {c : Nat} {w : List Value} (eg : re_hg h as0 = some (c, w)) (ec : c = 5) (K : wp SC 332 d 0 0 [(0, .ref as0)] [] h (wp_ret SC 521 (d + 1) s 8 [] [] Q)) : wp SC 521 (d + 1) s 5 [] [.ref as0] h Q := by
  have eA : lv_args 0 (.ref as0 :: [].reverse) = [(0, .ref as0)] := by simp [lv_args, vc_i, vc_l, vc_r, vc_n, vc_a]
  refine wp_callV (ar := []) (rest := []) (s1 := 0) (s2 := s) (d' := d) ⟨rfl, rfl⟩ rfl (Or.inl rfl)  (by simp [re_cat, vc_i, vc_l, vc_r, vc_n, vc_a]) (by rw [show re_cat (.ref as0 :: [].reverse) = 1 from by simp [re_cat, vc_i, vc_l, vc_r, vc_n, vc_a]]; decide) (by decide) rfl eg ec rfl (Nat.le_of_eq (Nat.zero_add s)) ?_
  rw [eA]
  exact wp_mono K (fun k v h' z => wp_ret_weak (re_sb_nil _) z)
theorem B521_8 {SC : List Value} {d s : Nat} {h : re_H} {Q : Nat → Value → re_H → Prop} 
    (K : Q 0 .null h) : wp SC 521 d s 8 [] [] h Q := by
  exact wp_retv ⟨rfl, rfl⟩ rfl K
set_option maxRecDepth 20000 in
theorem B522_0 {SC : List Value} {d s : Nat} {h : re_H} {Q : Nat → Value → re_H → Prop} {a0 : Nat}
    {ae1 : Nat} (e2 : nb_fd h a0 8 0 (.ref ae1)) {c : Nat} {w : List Value} (eg : re_hg h ae1 = some (c, w)) (ec : c = 1) (K : wp SC 65 d 0 0 [(0, .ref ae1)] [] h (wp_ret SC 522 (d + 1) s 7 [(0, .ref a0)] [] Q)) : wp SC 522 (d + 1) s 0 [(0, .ref a0)] [] h Q := by
  refine wp_run 1 (pc' := 1) (lv' := [(0, .ref a0)]) (st' := [.ref a0]) rfl ?_
  obtain ⟨w2, e2a, e2b⟩ := e2
  refine wp_gf ⟨rfl, rfl⟩ rfl e2a e2b ?_
  have eA : lv_args 0 (.ref ae1 :: [].reverse) = [(0, .ref ae1)] := by simp [lv_args, vc_i, vc_l, vc_r, vc_n, vc_a]
  refine wp_callV (ar := []) (rest := []) (s1 := 0) (s2 := s) (d' := d) ⟨rfl, rfl⟩ rfl (Or.inl rfl)  (by simp [re_cat, vc_i, vc_l, vc_r, vc_n, vc_a]) (by rw [show re_cat (.ref ae1 :: [].reverse) = 1 from by simp [re_cat, vc_i, vc_l, vc_r, vc_n, vc_a]]; decide) (by decide) rfl eg ec rfl (Nat.le_of_eq (Nat.zero_add s)) ?_
  rw [eA]
  exact wp_mono K (fun k v h' z => wp_ret_weak (re_sb_at rfl (re_sb_nil _)) z)
set_option maxRecDepth 20000 in
theorem B522_7 {SC : List Value} {d s : Nat} {h : re_H} {Q : Nat → Value → re_H → Prop} {a0 : Nat} {xs0 : Int32}
    (K : wp SC 522 d s 12 [(0, .ref a0), (1, .int xs0), (2, .int (i32 0)), (3, .int (i32 0))] [] h Q) : wp SC 522 d s 7 [(0, .ref a0)] [.int xs0] h Q := by
  refine wp_run 5 (pc' := 12) (lv' := [(3, .int (i32 0)), (2, .int (i32 0)), (1, .int xs0), (0, .ref a0)]) (st' := []) rfl ?_
  exact wp_weak (re_sb_at rfl (re_sb_at rfl (re_sb_at rfl (re_sb_at rfl (re_sb_nil _))))) K
set_option maxRecDepth 20000 in
theorem B522_12 {SC : List Value} {d s : Nat} {h : re_H} {Q : Nat → Value → re_H → Prop} {a0 : Nat} {x1 : Int32} {x2 : Int32} {x3 : Int32}
    (K1 : ¬ x3 < (i32 12) → wp SC 522 d s 47 [(0, .ref a0), (2, .int x2)] [] h Q) (K2 : x3 < (i32 12) → wp SC 522 d s 18 [(0, .ref a0), (1, .int x1), (2, .int x2), (3, .int x3)] [] h Q) : wp SC 522 d s 12 [(0, .ref a0), (1, .int x1), (2, .int x2), (3, .int x3)] [] h Q := by
  refine wp_run 1 (pc' := 13) (lv' := [(0, .ref a0), (1, .int x1), (2, .int x2), (3, .int x3)]) (st' := [.int x3]) rfl ?_
  refine wp_bi (x := (i32 12)) ⟨rfl, rfl⟩ (by decide) ?_
  exact wp_cmp ⟨rfl, rfl⟩ rfl (fun hc => wp_weak (re_sb_at rfl (re_sb_at rfl (re_sb_nil _))) (K1 (ic1_ge hc))) (fun hc => wp_weak (re_sb_at rfl (re_sb_at rfl (re_sb_at rfl (re_sb_at rfl (re_sb_nil _))))) (K2 (ic0_ge hc)))
set_option maxRecDepth 20000 in
theorem B522_18 {SC : List Value} {d s : Nat} {h : re_H} {Q : Nat → Value → re_H → Prop} {a0 : Nat} {x1 : Int32} {x2 : Int32} {x3 : Int32}
    (K1 : ¬ ((x1 >>> (x3 &&& 31)) &&& (i32 1)) = (i32 1) → wp SC 522 d s 41 [(0, .ref a0), (1, .int x1), (2, .int x2), (3, .int x3)] [] h Q) (K2 : ((x1 >>> (x3 &&& 31)) &&& (i32 1)) = (i32 1) → wp SC 522 d s 27 [(0, .ref a0), (1, .int x1), (2, .int x2), (3, .int x3)] [] h Q) : wp SC 522 d s 18 [(0, .ref a0), (1, .int x1), (2, .int x2), (3, .int x3)] [] h Q := by
  refine wp_run 6 (pc' := 24) (lv' := [(0, .ref a0), (1, .int x1), (2, .int x2), (3, .int x3)]) (st' := [.int (i32 1), .int ((x1 >>> (x3 &&& 31)) &&& (i32 1))]) rfl ?_
  exact wp_cmp ⟨rfl, rfl⟩ rfl (fun hc => wp_weak (re_sb_at rfl (re_sb_at rfl (re_sb_at rfl (re_sb_at rfl (re_sb_nil _))))) (K1 (ic1_ne hc))) (fun hc => wp_weak (re_sb_at rfl (re_sb_at rfl (re_sb_at rfl (re_sb_at rfl (re_sb_nil _))))) (K2 (ic0_ne hc)))
set_option maxRecDepth 20000 in
theorem B522_27 {SC : List Value} {d s : Nat} {h : re_H} {Q : Nat → Value → re_H → Prop} {a0 : Nat} {x1 : Int32} {x2 : Int32} {x3 : Int32}
    {c : Nat} {w : List Value} (eg : re_hg h a0 = some (c, w)) (ec : c = 8) (K : wp SC 514 d 0 0 [(0, .ref a0), (1, .int x3)] [] h (wp_ret SC 522 (d + 1) s 32 [(0, .ref a0), (1, .int x1), (2, .int x2), (3, .int x3)] [] Q)) : wp SC 522 (d + 1) s 27 [(0, .ref a0), (1, .int x1), (2, .int x2), (3, .int x3)] [] h Q := by
  refine wp_run 2 (pc' := 29) (lv' := [(0, .ref a0), (1, .int x1), (2, .int x2), (3, .int x3)]) (st' := [.int x3, .ref a0]) rfl ?_
  have eA : lv_args 0 (.ref a0 :: [.int x3].reverse) = [(0, .ref a0), (1, .int x3)] := by simp [lv_args, vc_i, vc_l, vc_r, vc_n, vc_a]
  refine wp_callV (ar := [.int x3]) (rest := []) (s1 := 0) (s2 := s) (d' := d) ⟨rfl, rfl⟩ rfl (Or.inl rfl)  (by simp [re_cat, vc_i, vc_l, vc_r, vc_n, vc_a]) (by rw [show re_cat (.ref a0 :: [.int x3].reverse) = 2 from by simp [re_cat, vc_i, vc_l, vc_r, vc_n, vc_a]]; decide) (by decide) rfl eg ec rfl (Nat.le_of_eq (Nat.zero_add s)) ?_
  rw [eA]
  exact wp_mono K (fun k v h' z => wp_ret_weak (re_sb_at rfl (re_sb_at rfl (re_sb_at rfl (re_sb_at rfl (re_sb_nil _))))) z)
set_option maxRecDepth 20000 in
theorem B522_32 {SC : List Value} {d s : Nat} {h : re_H} {Q : Nat → Value → re_H → Prop} {a0 : Nat} {x1 : Int32} {x2 : Int32} {x3 : Int32} {xs0 : Int32}
    (K1 : xs0 = 0 → wp SC 522 d s 41 [(0, .ref a0), (1, .int x1), (2, .int x2), (3, .int x3)] [] h Q) (K2 : ¬ xs0 = 0 → wp SC 522 d s 35 [(0, .ref a0), (1, .int x1), (2, .int x2), (3, .int x3)] [] h Q) : wp SC 522 d s 32 [(0, .ref a0), (1, .int x1), (2, .int x2), (3, .int x3)] [.int xs0] h Q := by
  exact wp_if ⟨rfl, rfl⟩ rfl (fun hc => wp_weak (re_sb_at rfl (re_sb_at rfl (re_sb_at rfl (re_sb_at rfl (re_sb_nil _))))) (K1 (ic1_eq hc))) (fun hc => wp_weak (re_sb_at rfl (re_sb_at rfl (re_sb_at rfl (re_sb_at rfl (re_sb_nil _))))) (K2 (ic0_eq hc)))
set_option maxRecDepth 20000 in
theorem B522_35 {SC : List Value} {d s : Nat} {h : re_H} {Q : Nat → Value → re_H → Prop} {a0 : Nat} {x1 : Int32} {x2 : Int32} {x3 : Int32}
    (K : wp SC 522 d s 41 [(0, .ref a0), (1, .int x1), (2, .int (x2 ||| ((i32 1) <<< (x3 &&& 31)))), (3, .int x3)] [] h Q) : wp SC 522 d s 35 [(0, .ref a0), (1, .int x1), (2, .int x2), (3, .int x3)] [] h Q := by
  refine wp_run 6 (pc' := 41) (lv' := [(2, .int (x2 ||| ((i32 1) <<< (x3 &&& 31)))), (0, .ref a0), (1, .int x1), (3, .int x3)]) (st' := []) rfl ?_
  exact wp_weak (re_sb_at rfl (re_sb_at rfl (re_sb_at rfl (re_sb_at rfl (re_sb_nil _))))) K
set_option maxRecDepth 20000 in
theorem B522_41 {SC : List Value} {d s : Nat} {h : re_H} {Q : Nat → Value → re_H → Prop} {a0 : Nat} {x1 : Int32} {x2 : Int32} {x3 : Int32}
    (K : wp SC 522 d s 12 [(0, .ref a0), (1, .int x1), (2, .int x2), (3, .int (x3 + (i32 1)))] [] h Q) : wp SC 522 d s 41 [(0, .ref a0), (1, .int x1), (2, .int x2), (3, .int x3)] [] h Q := by
  refine wp_run 2 (pc' := 12) (lv' := [(3, .int (x3 + (i32 1))), (0, .ref a0), (1, .int x1), (2, .int x2)]) (st' := []) rfl ?_
  exact wp_weak (re_sb_at rfl (re_sb_at rfl (re_sb_at rfl (re_sb_at rfl (re_sb_nil _))))) K
set_option maxRecDepth 20000 in
theorem B522_47 {SC : List Value} {d s : Nat} {h : re_H} {Q : Nat → Value → re_H → Prop} {a0 : Nat} {x2 : Int32}
    (K : wp SC 522 d s 49 [(0, .ref a0), (2, .int x2), (3, .int (i32 0))] [] h Q) : wp SC 522 d s 47 [(0, .ref a0), (2, .int x2)] [] h Q := by
  refine wp_run 2 (pc' := 49) (lv' := [(3, .int (i32 0)), (0, .ref a0), (2, .int x2)]) (st' := []) rfl ?_
  exact wp_weak (re_sb_at rfl (re_sb_at rfl (re_sb_at rfl (re_sb_nil _)))) K
set_option maxRecDepth 20000 in
theorem B522_49 {SC : List Value} {d s : Nat} {h : re_H} {Q : Nat → Value → re_H → Prop} {a0 : Nat} {x2 : Int32} {x3 : Int32}
    (K1 : ¬ x3 < (i32 12) → wp SC 522 d s 112 [(2, .int x2)] [] h Q) (K2 : x3 < (i32 12) → wp SC 522 d s 55 [(0, .ref a0), (2, .int x2), (3, .int x3)] [] h Q) : wp SC 522 d s 49 [(0, .ref a0), (2, .int x2), (3, .int x3)] [] h Q := by
  refine wp_run 1 (pc' := 50) (lv' := [(0, .ref a0), (2, .int x2), (3, .int x3)]) (st' := [.int x3]) rfl ?_
  refine wp_bi (x := (i32 12)) ⟨rfl, rfl⟩ (by decide) ?_
  exact wp_cmp ⟨rfl, rfl⟩ rfl (fun hc => wp_weak (re_sb_at rfl (re_sb_nil _)) (K1 (ic1_ge hc))) (fun hc => wp_weak (re_sb_at rfl (re_sb_at rfl (re_sb_at rfl (re_sb_nil _)))) (K2 (ic0_ge hc)))
set_option maxRecDepth 20000 in
theorem B522_55 {SC : List Value} {d s : Nat} {h : re_H} {Q : Nat → Value → re_H → Prop} {a0 : Nat} {x2 : Int32} {x3 : Int32}
    (K : wp SC 522 d s 58 [(0, .ref a0), (2, .int x2), (3, .int x3), (4, .int (i32 0))] [] h Q) : wp SC 522 d s 55 [(0, .ref a0), (2, .int x2), (3, .int x3)] [] h Q := by
  refine wp_run 2 (pc' := 58) (lv' := [(4, .int (i32 0)), (0, .ref a0), (2, .int x2), (3, .int x3)]) (st' := []) rfl ?_
  exact wp_weak (re_sb_at rfl (re_sb_at rfl (re_sb_at rfl (re_sb_at rfl (re_sb_nil _))))) K
set_option maxRecDepth 20000 in
theorem B522_58 {SC : List Value} {d s : Nat} {h : re_H} {Q : Nat → Value → re_H → Prop} {a0 : Nat} {x2 : Int32} {x3 : Int32} {x4 : Int32}
    (K1 : ¬ x4 < (i32 12) → wp SC 522 d s 106 [(0, .ref a0), (2, .int x2), (3, .int x3)] [] h Q) (K2 : x4 < (i32 12) → wp SC 522 d s 65 [(0, .ref a0), (2, .int x2), (3, .int x3), (4, .int x4)] [] h Q) : wp SC 522 d s 58 [(0, .ref a0), (2, .int x2), (3, .int x3), (4, .int x4)] [] h Q := by
  refine wp_run 1 (pc' := 60) (lv' := [(0, .ref a0), (2, .int x2), (3, .int x3), (4, .int x4)]) (st' := [.int x4]) rfl ?_
  refine wp_bi (x := (i32 12)) ⟨rfl, rfl⟩ (by decide) ?_
  exact wp_cmp ⟨rfl, rfl⟩ rfl (fun hc => wp_weak (re_sb_at rfl (re_sb_at rfl (re_sb_at rfl (re_sb_nil _)))) (K1 (ic1_ge hc))) (fun hc => wp_weak (re_sb_at rfl (re_sb_at rfl (re_sb_at rfl (re_sb_at rfl (re_sb_nil _))))) (K2 (ic0_ge hc)))
set_option maxRecDepth 20000 in
theorem B522_65 {SC : List Value} {d s : Nat} {h : re_H} {Q : Nat → Value → re_H → Prop} {a0 : Nat} {x2 : Int32} {x3 : Int32} {x4 : Int32}
    {ae1 : Nat} (e2 : nb_fd h a0 8 1 (.ref ae1)) {ae3 : Nat} (e4 : nb_fd h ae1 3 6 (.ref ae3)) {xe5 : Int32} (e6 : nb_ar h ae3 100 x4 (.int xe5)) (K1 : ¬ xe5 = 0 → wp SC 522 d s 100 [(0, .ref a0), (2, .int x2), (3, .int x3), (4, .int x4)] [] h Q) (K2 : xe5 = 0 → wp SC 522 d s 78 [(0, .ref a0), (2, .int x2), (3, .int x3), (4, .int x4)] [] h Q) : wp SC 522 d s 65 [(0, .ref a0), (2, .int x2), (3, .int x3), (4, .int x4)] [] h Q := by
  refine wp_run 1 (pc' := 66) (lv' := [(0, .ref a0), (2, .int x2), (3, .int x3), (4, .int x4)]) (st' := [.ref a0]) rfl ?_
  obtain ⟨w2, e2a, e2b⟩ := e2
  refine wp_gf ⟨rfl, rfl⟩ rfl e2a e2b ?_
  obtain ⟨w4, e4a, e4b⟩ := e4
  refine wp_gf ⟨rfl, rfl⟩ rfl e4a e4b ?_
  refine wp_run 1 (pc' := 74) (lv' := [(0, .ref a0), (2, .int x2), (3, .int x3), (4, .int x4)]) (st' := [.int x4, .ref ae3]) rfl ?_
  obtain ⟨w6, i6, e6a, e6x, e6i, e6v⟩ := e6
  refine wp_ial ⟨rfl, rfl⟩ e6a rfl e6x e6i e6v ?_
  exact wp_if ⟨rfl, rfl⟩ rfl (fun hc => wp_weak (re_sb_at rfl (re_sb_at rfl (re_sb_at rfl (re_sb_at rfl (re_sb_nil _))))) (K1 (ic1_ne hc))) (fun hc => wp_weak (re_sb_at rfl (re_sb_at rfl (re_sb_at rfl (re_sb_at rfl (re_sb_nil _))))) (K2 (ic0_ne hc)))
set_option maxRecDepth 20000 in
theorem B522_78 {SC : List Value} {d s : Nat} {h : re_H} {Q : Nat → Value → re_H → Prop} {a0 : Nat} {x2 : Int32} {x3 : Int32} {x4 : Int32}
    {ae1 : Nat} (e2 : nb_fd h a0 8 1 (.ref ae1)) {ae3 : Nat} (e4 : nb_fd h ae1 3 4 (.ref ae3)) {xe5 : Int32} (e6 : nb_ar h ae3 100 x4 (.int xe5)) (K1 : (xe5 &&& x2) = 0 → wp SC 522 d s 100 [(0, .ref a0), (2, .int x2), (3, .int x3), (4, .int x4)] [] h Q) (K2 : ¬ (xe5 &&& x2) = 0 → wp SC 522 d s 93 [(0, .ref a0), (2, .int x2), (3, .int x3), (4, .int x4)] [] h Q) : wp SC 522 d s 78 [(0, .ref a0), (2, .int x2), (3, .int x3), (4, .int x4)] [] h Q := by
  refine wp_run 1 (pc' := 79) (lv' := [(0, .ref a0), (2, .int x2), (3, .int x3), (4, .int x4)]) (st' := [.ref a0]) rfl ?_
  obtain ⟨w2, e2a, e2b⟩ := e2
  refine wp_gf ⟨rfl, rfl⟩ rfl e2a e2b ?_
  obtain ⟨w4, e4a, e4b⟩ := e4
  refine wp_gf ⟨rfl, rfl⟩ rfl e4a e4b ?_
  refine wp_run 1 (pc' := 87) (lv' := [(0, .ref a0), (2, .int x2), (3, .int x3), (4, .int x4)]) (st' := [.int x4, .ref ae3]) rfl ?_
  obtain ⟨w6, i6, e6a, e6x, e6i, e6v⟩ := e6
  refine wp_ial ⟨rfl, rfl⟩ e6a rfl e6x e6i e6v ?_
  refine wp_run 2 (pc' := 90) (lv' := [(0, .ref a0), (2, .int x2), (3, .int x3), (4, .int x4)]) (st' := [.int (xe5 &&& x2)]) rfl ?_
  exact wp_if ⟨rfl, rfl⟩ rfl (fun hc => wp_weak (re_sb_at rfl (re_sb_at rfl (re_sb_at rfl (re_sb_at rfl (re_sb_nil _))))) (K1 (ic1_eq hc))) (fun hc => wp_weak (re_sb_at rfl (re_sb_at rfl (re_sb_at rfl (re_sb_at rfl (re_sb_nil _))))) (K2 (ic0_eq hc)))
set_option maxRecDepth 20000 in
theorem B522_93 {SC : List Value} {d s : Nat} {h : re_H} {Q : Nat → Value → re_H → Prop} {a0 : Nat} {x2 : Int32} {x3 : Int32} {x4 : Int32}
    (K : wp SC 522 d s 100 [(0, .ref a0), (2, .int (x2 ||| ((i32 1) <<< (x4 &&& 31)))), (3, .int x3), (4, .int x4)] [] h Q) : wp SC 522 d s 93 [(0, .ref a0), (2, .int x2), (3, .int x3), (4, .int x4)] [] h Q := by
  refine wp_run 6 (pc' := 100) (lv' := [(2, .int (x2 ||| ((i32 1) <<< (x4 &&& 31)))), (0, .ref a0), (3, .int x3), (4, .int x4)]) (st' := []) rfl ?_
  exact wp_weak (re_sb_at rfl (re_sb_at rfl (re_sb_at rfl (re_sb_at rfl (re_sb_nil _))))) K
set_option maxRecDepth 20000 in
theorem B522_100 {SC : List Value} {d s : Nat} {h : re_H} {Q : Nat → Value → re_H → Prop} {a0 : Nat} {x2 : Int32} {x3 : Int32} {x4 : Int32}
    (K : wp SC 522 d s 58 [(0, .ref a0), (2, .int x2), (3, .int x3), (4, .int (x4 + (i32 1)))] [] h Q) : wp SC 522 d s 100 [(0, .ref a0), (2, .int x2), (3, .int x3), (4, .int x4)] [] h Q := by
  refine wp_run 2 (pc' := 58) (lv' := [(4, .int (x4 + (i32 1))), (0, .ref a0), (2, .int x2), (3, .int x3)]) (st' := []) rfl ?_
  exact wp_weak (re_sb_at rfl (re_sb_at rfl (re_sb_at rfl (re_sb_at rfl (re_sb_nil _))))) K
set_option maxRecDepth 20000 in
theorem B522_106 {SC : List Value} {d s : Nat} {h : re_H} {Q : Nat → Value → re_H → Prop} {a0 : Nat} {x2 : Int32} {x3 : Int32}
    (K : wp SC 522 d s 49 [(0, .ref a0), (2, .int x2), (3, .int (x3 + (i32 1)))] [] h Q) : wp SC 522 d s 106 [(0, .ref a0), (2, .int x2), (3, .int x3)] [] h Q := by
  refine wp_run 2 (pc' := 49) (lv' := [(3, .int (x3 + (i32 1))), (0, .ref a0), (2, .int x2)]) (st' := []) rfl ?_
  exact wp_weak (re_sb_at rfl (re_sb_at rfl (re_sb_at rfl (re_sb_nil _)))) K
set_option maxRecDepth 20000 in
theorem B522_112 {SC : List Value} {d s : Nat} {h : re_H} {Q : Nat → Value → re_H → Prop} {x2 : Int32}
    (K : Q 1 (.int x2) h) : wp SC 522 d s 112 [(2, .int x2)] [] h Q := by
  refine wp_run 1 (pc' := 113) (lv' := [(2, .int x2)]) (st' := [.int x2]) rfl ?_
  exact wp_reti ⟨rfl, rfl⟩ rfl K
theorem B523_0 {SC : List Value} {d s : Nat} {h : re_H} {Q : Nat → Value → re_H → Prop} {a0 : Nat}
    (K : wp SC 523 d s 2 [(0, .ref a0), (1, .int (i32 0))] [] h Q) : wp SC 523 d s 0 [(0, .ref a0)] [] h Q := by
  refine wp_run 2 (pc' := 2) (lv' := [(1, .int (i32 0)), (0, .ref a0)]) (st' := []) rfl ?_
  exact wp_weak (re_sb_at rfl (re_sb_at rfl (re_sb_nil _))) K
theorem B523_2 {SC : List Value} {d s : Nat} {h : re_H} {Q : Nat → Value → re_H → Prop} {a0 : Nat} {x1 : Int32}
    (K1 : ¬ x1 < (i32 12) → wp SC 523 d s 22 [] [] h Q) (K2 : x1 < (i32 12) → wp SC 523 d s 8 [(0, .ref a0), (1, .int x1)] [] h Q) : wp SC 523 d s 2 [(0, .ref a0), (1, .int x1)] [] h Q := by
  refine wp_run 1 (pc' := 3) (lv' := [(0, .ref a0), (1, .int x1)]) (st' := [.int x1]) rfl ?_
  refine wp_bi (x := (i32 12)) ⟨rfl, rfl⟩ (by decide) ?_
  exact wp_cmp ⟨rfl, rfl⟩ rfl (fun hc => wp_weak (re_sb_nil _) (K1 (ic1_ge hc))) (fun hc => wp_weak (re_sb_at rfl (re_sb_at rfl (re_sb_nil _))) (K2 (ic0_ge hc)))
theorem B523_8 {SC : List Value} {d s : Nat} {h : re_H} {Q : Nat → Value → re_H → Prop} {a0 : Nat} {x1 : Int32}
    {c : Nat} {w : List Value} (eg : re_hg h a0 = some (c, w)) (ec : c = 8) (K : wp SC 515 d 0 0 [(0, .ref a0), (1, .int x1)] [] h (wp_ret SC 523 (d + 1) s 13 [(0, .ref a0), (1, .int x1)] [] Q)) : wp SC 523 (d + 1) s 8 [(0, .ref a0), (1, .int x1)] [] h Q := by
  refine wp_run 2 (pc' := 10) (lv' := [(0, .ref a0), (1, .int x1)]) (st' := [.int x1, .ref a0]) rfl ?_
  have eA : lv_args 0 (.ref a0 :: [.int x1].reverse) = [(0, .ref a0), (1, .int x1)] := by simp [lv_args, vc_i, vc_l, vc_r, vc_n, vc_a]
  refine wp_callV (ar := [.int x1]) (rest := []) (s1 := 0) (s2 := s) (d' := d) ⟨rfl, rfl⟩ rfl (Or.inl rfl)  (by simp [re_cat, vc_i, vc_l, vc_r, vc_n, vc_a]) (by rw [show re_cat (.ref a0 :: [.int x1].reverse) = 2 from by simp [re_cat, vc_i, vc_l, vc_r, vc_n, vc_a]]; decide) (by decide) rfl eg ec rfl (Nat.le_of_eq (Nat.zero_add s)) ?_
  rw [eA]
  exact wp_mono K (fun k v h' z => wp_ret_weak (re_sb_at rfl (re_sb_at rfl (re_sb_nil _))) z)
theorem B523_13 {SC : List Value} {d s : Nat} {h : re_H} {Q : Nat → Value → re_H → Prop} {a0 : Nat} {x1 : Int32} {as0 : Nat}
    {c : Nat} {w : List Value} (eg : re_hg h as0 = some (c, w)) (ec : c = 5) (K : wp SC 332 d 0 0 [(0, .ref as0)] [] h (wp_ret SC 523 (d + 1) s 16 [(0, .ref a0), (1, .int x1)] [] Q)) : wp SC 523 (d + 1) s 13 [(0, .ref a0), (1, .int x1)] [.ref as0] h Q := by
  have eA : lv_args 0 (.ref as0 :: [].reverse) = [(0, .ref as0)] := by simp [lv_args, vc_i, vc_l, vc_r, vc_n, vc_a]
  refine wp_callV (ar := []) (rest := []) (s1 := 0) (s2 := s) (d' := d) ⟨rfl, rfl⟩ rfl (Or.inl rfl)  (by simp [re_cat, vc_i, vc_l, vc_r, vc_n, vc_a]) (by rw [show re_cat (.ref as0 :: [].reverse) = 1 from by simp [re_cat, vc_i, vc_l, vc_r, vc_n, vc_a]]; decide) (by decide) rfl eg ec rfl (Nat.le_of_eq (Nat.zero_add s)) ?_
  rw [eA]
  exact wp_mono K (fun k v h' z => wp_ret_weak (re_sb_at rfl (re_sb_at rfl (re_sb_nil _))) z)
theorem B523_16 {SC : List Value} {d s : Nat} {h : re_H} {Q : Nat → Value → re_H → Prop} {a0 : Nat} {x1 : Int32}
    (K : wp SC 523 d s 2 [(0, .ref a0), (1, .int (x1 + (i32 1)))] [] h Q) : wp SC 523 d s 16 [(0, .ref a0), (1, .int x1)] [] h Q := by
  refine wp_run 2 (pc' := 2) (lv' := [(1, .int (x1 + (i32 1))), (0, .ref a0)]) (st' := []) rfl ?_
  exact wp_weak (re_sb_at rfl (re_sb_at rfl (re_sb_nil _))) K
theorem B523_22 {SC : List Value} {d s : Nat} {h : re_H} {Q : Nat → Value → re_H → Prop} 
    (K : Q 0 .null h) : wp SC 523 d s 22 [] [] h Q := by
  exact wp_retv ⟨rfl, rfl⟩ rfl K
