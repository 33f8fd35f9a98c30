theorem B384_0 {SC : List Value} {d s : Nat} {h : re_H} {Q : Nat → Value → re_H → Prop} {a0 : Nat} {a1 : Nat}
    (K : wp SC 384 d s 4 [(0, .ref a0), (1, .ref a1)] [] h Q) : wp SC 384 d s 0 [(0, .ref a0), (1, .ref a1)] [] h Q := by
  refine wp_run 1 (pc' := 1) (lv' := [(0, .ref a0), (1, .ref a1)]) (st' := [.ref a0]) rfl ?_
  refine wp_obj ⟨rfl, rfl⟩ rfl (by simp [re_cat, vc_i, vc_l, vc_r, vc_n, vc_a]) ?_
  exact wp_weak (re_sb_at rfl (re_sb_at rfl (re_sb_nil _))) K
theorem B384_4 {SC : List Value} {d s : Nat} {h : re_H} {Q : Nat → Value → re_H → Prop} {a0 : Nat} {a1 : Nat}
    {w : List Value} (e : re_hg h a0 = some (6, w)) (hk : 0 < w.length) (K : wp SC 384 d s 9 [] [] (re_hw h a0 (6, w.set 0 (.ref a1))) Q) : wp SC 384 d s 4 [(0, .ref a0), (1, .ref a1)] [] h Q := by
  refine wp_run 2 (pc' := 6) (lv' := [(0, .ref a0), (1, .ref a1)]) (st' := [.ref a1, .ref a0]) rfl ?_
  exact wp_pf ⟨rfl, rfl⟩ rfl (Or.inr ⟨rfl, rfl⟩) e hk (fit_a (Or.inr ⟨_, rfl⟩)) (wp_weak (re_sb_nil _) K)
theorem B384_9 {SC : List Value} {d s : Nat} {h : re_H} {Q : Nat → Value → re_H → Prop} 
    (K : Q 0 .null h) : wp SC 384 d s 9 [] [] h Q := by
  exact wp_retv ⟨rfl, rfl⟩ rfl K
set_option maxRecDepth 20000 in
theorem B385_0 {SC : List Value} {d s : Nat} {h : re_H} {Q : Nat → Value → re_H → Prop} {a0 : Nat}
    {xe1 : Int32} (e2 : nb_fd h a0 6 4 (.int xe1)) {xe3 : Int32} (e4 : nb_fd h a0 6 5 (.int xe3)) (K1 : ¬ xe1 < (xe3 + (i32 500)) → wp SC 385 d s 16 [(0, .ref a0)] [] h Q) (K2 : xe1 < (xe3 + (i32 500)) → wp SC 385 d s 15 [] [] h Q) : wp SC 385 d s 0 [(0, .ref a0)] [] h Q := by
  refine wp_run 1 (pc' := 1) (lv' := [(0, .ref a0)]) (st' := [.ref a0]) rfl ?_
  obtain ⟨w2, e2a, e2b⟩ := e2
  refine wp_gf ⟨rfl, rfl⟩ rfl e2a e2b ?_
  refine wp_run 1 (pc' := 5) (lv' := [(0, .ref a0)]) (st' := [.ref a0, .int xe1]) rfl ?_
  obtain ⟨w4, e4a, e4b⟩ := e4
  refine wp_gf ⟨rfl, rfl⟩ rfl e4a e4b ?_
  refine wp_si (x := (i32 500)) ⟨rfl, rfl⟩ (by decide) ?_
  refine wp_run 1 (pc' := 12) (lv' := [(0, .ref a0)]) (st' := [.int (xe3 + (i32 500)), .int xe1]) rfl ?_
  exact wp_cmp ⟨rfl, rfl⟩ rfl (fun hc => wp_weak (re_sb_at rfl (re_sb_nil _)) (K1 (ic1_ge hc))) (fun hc => wp_weak (re_sb_nil _) (K2 (ic0_ge hc)))
set_option maxRecDepth 20000 in
theorem B385_15 {SC : List Value} {d s : Nat} {h : re_H} {Q : Nat → Value → re_H → Prop} 
    (K : Q 0 .null h) : wp SC 385 d s 15 [] [] h Q := by
  exact wp_retv ⟨rfl, rfl⟩ rfl K
set_option maxRecDepth 20000 in
theorem B385_16 {SC : List Value} {d s : Nat} {h : re_H} {Q : Nat → Value → re_H → Prop} {a0 : Nat}
    (K : wp SC 385 d s 18 [(0, .ref a0), (1, .int (i32 0))] [] h Q) : wp SC 385 d s 16 [(0, .ref a0)] [] h Q := by
  refine wp_run 2 (pc' := 18) (lv' := [(1, .int (i32 0)), (0, .ref a0)]) (st' := []) rfl ?_
  exact wp_weak (re_sb_at rfl (re_sb_at rfl (re_sb_nil _))) K
set_option maxRecDepth 20000 in
theorem B385_18 {SC : List Value} {d s : Nat} {h : re_H} {Q : Nat → Value → re_H → Prop} {a0 : Nat} {x1 : Int32}
    {ae1 : Nat} (e2 : nb_fd h a0 6 0 (.ref ae1)) {w3 : List Value} (e3 : re_hg h ae1 = some (105, w3)) (K1 : ¬ x1 < (i32 w3.length) → wp SC 385 d s 67 [(0, .ref a0)] [] h Q) (K2 : x1 < (i32 w3.length) → wp SC 385 d s 27 [(0, .ref a0), (1, .int x1)] [] h Q) : wp SC 385 d s 18 [(0, .ref a0), (1, .int x1)] [] h Q := by
  refine wp_run 2 (pc' := 20) (lv' := [(0, .ref a0), (1, .int x1)]) (st' := [.ref a0, .int x1]) rfl ?_
  obtain ⟨w2, e2a, e2b⟩ := e2
  refine wp_gf ⟨rfl, rfl⟩ rfl e2a e2b ?_
  refine wp_alen ⟨rfl, rfl⟩ e3 ⟨by decide, by decide⟩ ?_
  exact wp_cmp ⟨rfl, rfl⟩ rfl (fun hc => wp_weak (re_sb_at rfl (re_sb_nil _)) (K1 (ic1_ge hc))) (fun hc => wp_weak (re_sb_at rfl (re_sb_at rfl (re_sb_nil _))) (K2 (ic0_ge hc)))
set_option maxRecDepth 20000 in
theorem B385_27 {SC : List Value} {d s : Nat} {h : re_H} {Q : Nat → Value → re_H → Prop} {a0 : Nat} {x1 : Int32}
    {ae1 : Nat} (e2 : nb_fd h a0 6 0 (.ref ae1)) {ae3 : Nat} (e4 : nb_ar h ae1 105 x1 (.ref ae3)) (K : wp SC 385 d s 36 [(0, .ref a0), (1, .int x1), (2, .ref ae3), (3, .int (i32 0))] [] h Q) : wp SC 385 d s 27 [(0, .ref a0), (1, .int x1)] [] h Q := by
  refine wp_run 1 (pc' := 28) (lv' := [(0, .ref a0), (1, .int x1)]) (st' := [.ref a0]) rfl ?_
  obtain ⟨w2, e2a, e2b⟩ := e2
  refine wp_gf ⟨rfl, rfl⟩ rfl e2a e2b ?_
  refine wp_run 1 (pc' := 32) (lv' := [(0, .ref a0), (1, .int x1)]) (st' := [.int x1, .ref ae1]) rfl ?_
  obtain ⟨w4, i4, e4a, e4x, e4i, e4v⟩ := e4
  refine wp_aal ⟨rfl, rfl⟩ e4a ⟨by decide, by decide⟩ e4x e4i e4v ?_
  refine wp_run 3 (pc' := 36) (lv' := [(3, .int (i32 0)), (2, .ref ae3), (0, .ref a0), (1, .int x1)]) (st' := []) rfl ?_
  exact wp_weak (re_sb_at rfl (re_sb_at rfl (re_sb_at rfl (re_sb_at rfl (re_sb_nil _))))) K
set_option maxRecDepth 20000 in
theorem B385_36 {SC : List Value} {d s : Nat} {h : re_H} {Q : Nat → Value → re_H → Prop} {a0 : Nat} {x1 : Int32} {a2 : Nat} {x3 : Int32}
    (K : wp SC 385 d s 40 [(0, .ref a0), (1, .int x1), (2, .ref a2), (3, .int x3)] [] h Q) : wp SC 385 d s 36 [(0, .ref a0), (1, .int x1), (2, .ref a2), (3, .int x3)] [] h Q := by
  refine wp_run 1 (pc' := 37) (lv' := [(0, .ref a0), (1, .int x1), (2, .ref a2), (3, .int x3)]) (st' := [.ref a2]) rfl ?_
  refine wp_run 1 (pc' := 40) (lv' := [(0, .ref a0), (1, .int x1), (2, .ref a2), (3, .int x3)]) (st' := []) rfl ?_
  exact wp_weak (re_sb_at rfl (re_sb_at rfl (re_sb_at rfl (re_sb_at rfl (re_sb_nil _))))) K
set_option maxRecDepth 20000 in
theorem B385_40 {SC : List Value} {d s : Nat} {h : re_H} {Q : Nat → Value → re_H → Prop} {a0 : Nat} {x1 : Int32} {a2 : Nat} {x3 : Int32}
    (K1 : ¬ x3 < (i32 4) → wp SC 385 d s 61 [(0, .ref a0), (1, .int x1)] [] h Q) (K2 : x3 < (i32 4) → wp SC 385 d s 45 [(0, .ref a0), (1, .int x1), (2, .ref a2), (3, .int x3)] [] h Q) : wp SC 385 d s 40 [(0, .ref a0), (1, .int x1), (2, .ref a2), (3, .int x3)] [] h Q := by
  refine wp_run 2 (pc' := 42) (lv' := [(0, .ref a0), (1, .int x1), (2, .ref a2), (3, .int x3)]) (st' := [.int (i32 4), .int x3]) rfl ?_
  exact wp_cmp ⟨rfl, rfl⟩ rfl (fun hc => wp_weak (re_sb_at rfl (re_sb_at rfl (re_sb_nil _))) (K1 (ic1_ge hc))) (fun hc => wp_weak (re_sb_at rfl (re_sb_at rfl (re_sb_at rfl (re_sb_at rfl (re_sb_nil _))))) (K2 (ic0_ge hc)))
set_option maxRecDepth 20000 in
theorem B385_45 {SC : List Value} {d s : Nat} {h : re_H} {Q : Nat → Value → re_H → Prop} {a0 : Nat} {x1 : Int32} {a2 : Nat} {x3 : Int32}
    {ae1 : Nat} (e2 : nb_fd h a2 5 5 (.ref ae1)) {ve3 : Value} (re3 : re_R ve3) (e4 : nb_ar h ae1 106 x3 (ve3)) {c : Nat} {w : List Value} (eg : re_hg h a0 = some (c, w)) (ec : c = 6) (K : wp SC 386 d 0 0 [(0, .ref a0), (1, ve3)] [] h (wp_ret SC 385 (d + 1) s 55 [(0, .ref a0), (1, .int x1), (2, .ref a2), (3, .int x3)] [] Q)) : wp SC 385 (d + 1) s 45 [(0, .ref a0), (1, .int x1), (2, .ref a2), (3, .int x3)] [] h Q := by
  refine wp_run 2 (pc' := 47) (lv' := [(0, .ref a0), (1, .int x1), (2, .ref a2), (3, .int x3)]) (st' := [.ref a2, .ref a0]) rfl ?_
  obtain ⟨w2, e2a, e2b⟩ := e2
  refine wp_gf ⟨rfl, rfl⟩ rfl e2a e2b ?_
  refine wp_run 1 (pc' := 51) (lv' := [(0, .ref a0), (1, .int x1), (2, .ref a2), (3, .int x3)]) (st' := [.int x3, .ref ae1, .ref a0]) rfl ?_
  obtain ⟨w4, i4, e4a, e4x, e4i, e4v⟩ := e4
  refine wp_aal ⟨rfl, rfl⟩ e4a ⟨by decide, by decide⟩ e4x e4i e4v ?_
  have eA : lv_args 0 (.ref a0 :: [ve3].reverse) = [(0, .ref a0), (1, ve3)] := by simp [lv_args, vc_i, vc_l, vc_r, vc_n, vc_a, re_R_cat re3]
  refine wp_callV (ar := [ve3]) (rest := []) (s1 := 0) (s2 := s) (d' := d) ⟨rfl, rfl⟩ rfl (Or.inl rfl)  (by simp [re_cat, vc_i, vc_l, vc_r, vc_n, vc_a]) (by rw [show re_cat (.ref a0 :: [ve3].reverse) = 2 from by simp [re_cat, vc_i, vc_l, vc_r, vc_n, vc_a, re_R_cat re3]]; decide) (by decide) rfl eg ec rfl (Nat.le_of_eq (Nat.zero_add s)) ?_
  rw [eA]
  exact wp_mono K (fun k v h' z => wp_ret_weak (re_sb_at rfl (re_sb_at rfl (re_sb_at rfl (re_sb_at rfl (re_sb_nil _))))) z)
set_option maxRecDepth 20000 in
theorem B385_55 {SC : List Value} {d s : Nat} {h : re_H} {Q : Nat → Value → re_H → Prop} {a0 : Nat} {x1 : Int32} {a2 : Nat} {x3 : Int32}
    (K : wp SC 385 d s 36 [(0, .ref a0), (1, .int x1), (2, .ref a2), (3, .int (x3 + (i32 1)))] [] h Q) : wp SC 385 d s 55 [(0, .ref a0), (1, .int x1), (2, .ref a2), (3, .int x3)] [] h Q := by
  refine wp_run 2 (pc' := 36) (lv' := [(3, .int (x3 + (i32 1))), (0, .ref a0), (1, .int x1), (2, .ref a2)]) (st' := []) rfl ?_
  exact wp_weak (re_sb_at rfl (re_sb_at rfl (re_sb_at rfl (re_sb_at rfl (re_sb_nil _))))) K
set_option maxRecDepth 20000 in
theorem B385_61 {SC : List Value} {d s : Nat} {h : re_H} {Q : Nat → Value → re_H → Prop} {a0 : Nat} {x1 : Int32}
    (K : wp SC 385 d s 18 [(0, .ref a0), (1, .int (x1 + (i32 1)))] [] h Q) : wp SC 385 d s 61 [(0, .ref a0), (1, .int x1)] [] h Q := by
  refine wp_run 2 (pc' := 18) (lv' := [(1, .int (x1 + (i32 1))), (0, .ref a0)]) (st' := []) rfl ?_
  exact wp_weak (re_sb_at rfl (re_sb_at rfl (re_sb_nil _))) K
set_option maxRecDepth 20000 in
theorem B385_67 {SC : List Value} {d s : Nat} {h : re_H} {Q : Nat → Value → re_H → Prop} {a0 : Nat}
    (K : wp SC 385 d s 69 [(0, .ref a0), (1, .int (i32 0))] [] h Q) : wp SC 385 d s 67 [(0, .ref a0)] [] h Q := by
  refine wp_run 2 (pc' := 69) (lv' := [(1, .int (i32 0)), (0, .ref a0)]) (st' := []) rfl ?_
  exact wp_weak (re_sb_at rfl (re_sb_at rfl (re_sb_nil _))) K
set_option maxRecDepth 20000 in
theorem B385_69 {SC : List Value} {d s : Nat} {h : re_H} {Q : Nat → Value → re_H → Prop} {a0 : Nat} {x1 : Int32}
    (K1 : ¬ x1 < (10000000) → wp SC 385 d s 122 [(0, .ref a0)] [] h Q) (K2 : x1 < (10000000) → wp SC 385 d s 75 [(0, .ref a0), (1, .int x1)] [] h Q) : wp SC 385 d s 69 [(0, .ref a0), (1, .int x1)] [] h Q := by
  refine wp_run 1 (pc' := 70) (lv' := [(0, .ref a0), (1, .int x1)]) (st' := [.int x1]) rfl ?_
  refine wp_cst (pc' := 72) (v := .int (10000000)) ⟨rfl, rfl⟩ rfl rfl rfl rfl rfl ?_
  exact wp_cmp ⟨rfl, rfl⟩ rfl (fun hc => wp_weak (re_sb_at rfl (re_sb_nil _)) (K1 (ic1_ge hc))) (fun hc => wp_weak (re_sb_at rfl (re_sb_at rfl (re_sb_nil _))) (K2 (ic0_ge hc)))
set_option maxRecDepth 20000 in
theorem B385_75 {SC : List Value} {d s : Nat} {h : re_H} {Q : Nat → Value → re_H → Prop} {a0 : Nat} {x1 : Int32}
    {ve1 : Value} (re1 : re_R ve1) (e2 : nb_fd h a0 6 3 (ve1)) (K1 : ve1 = .null → wp SC 385 d s 122 [(0, .ref a0)] [] h Q) (K2 : ∀ b3, ve1 = .ref b3 → wp SC 385 d s 82 [(0, .ref a0), (1, .int x1)] [] h Q) : wp SC 385 d s 75 [(0, .ref a0), (1, .int x1)] [] h Q := by
  refine wp_run 1 (pc' := 76) (lv' := [(0, .ref a0), (1, .int x1)]) (st' := [.ref a0]) rfl ?_
  obtain ⟨w2, e2a, e2b⟩ := e2
  refine wp_gf ⟨rfl, rfl⟩ rfl e2a e2b ?_
  exact wp_ifn ⟨rfl, rfl⟩ rfl re1 (fun hc => by subst hc; exact wp_weak (re_sb_at rfl (re_sb_nil _)) (K1 rfl)) (fun bb hc => by subst hc; exact wp_weak (re_sb_at rfl (re_sb_at rfl (re_sb_nil _))) (K2 bb rfl))
set_option maxRecDepth 20000 in
theorem B385_82 {SC : List Value} {d s : Nat} {h : re_H} {Q : Nat → Value → re_H → Prop} {a0 : Nat} {x1 : Int32}
    {ve1 : Value} (re1 : re_R ve1) (e2 : nb_fd h a0 6 3 (ve1)) {b3 : Nat} (n3 : ve1 = .ref b3) {ve4 : Value} (re4 : re_R ve4) (e5 : nb_fd h b3 10 7 (ve4)) {w : List Value} (e : re_hg h a0 = some (6, w)) (hk : 3 < w.length) (K : wp SC 385 d s 95 [(0, .ref a0), (1, .int x1), (2, .ref b3)] [] (re_hw h a0 (6, w.set 3 (ve4))) Q) : wp SC 385 d s 82 [(0, .ref a0), (1, .int x1)] [] h Q := by
  refine wp_run 1 (pc' := 83) (lv' := [(0, .ref a0), (1, .int x1)]) (st' := [.ref a0]) rfl ?_
  obtain ⟨w2, e2a, e2b⟩ := e2
  refine wp_gf ⟨rfl, rfl⟩ rfl e2a e2b ?_
  refine wp_asR (ins := .astore_n 2) (k := 2) (pc' := 87) (lv' := [(2, ve1), (0, .ref a0), (1, .int x1)]) ⟨rfl, rfl⟩ (Or.inr ⟨_, rfl, rfl, rfl⟩) (by decide) re1 rfl ?_
  refine wp_run 1 (pc' := 88) (lv' := [(2, ve1), (0, .ref a0), (1, .int x1)]) (st' := [.ref a0]) rfl ?_
  refine wp_alR (ins := .aload_n 2) (k := 2) (pc' := 89) ⟨rfl, rfl⟩ (Or.inr ⟨_, rfl, rfl, rfl⟩) rfl re1 ?_
  subst n3
  obtain ⟨w5, e5a, e5b⟩ := e5
  refine wp_gf ⟨rfl, rfl⟩ rfl e5a e5b ?_
  exact wp_pf ⟨rfl, rfl⟩ rfl (Or.inl rfl) e hk (fit_o re4) (wp_weak (re_sb_at rfl (re_sb_at rfl (re_sb_at rfl (re_sb_nil _)))) K)
set_option maxRecDepth 20000 in
theorem B385_95 {SC : List Value} {d s : Nat} {h : re_H} {Q : Nat → Value → re_H → Prop} {a0 : Nat} {x1 : Int32} {v2 : Value} (r2 : re_R v2)
    {b1 : Nat} (n1 : v2 = .ref b1) {w : List Value} (e : re_hg h b1 = some (10, w)) (hk : 7 < w.length) (K : wp SC 385 d s 100 [(0, .ref a0), (1, .int x1), (2, .ref b1)] [] (re_hw h b1 (10, w.set 7 (.null))) Q) : wp SC 385 d s 95 [(0, .ref a0), (1, .int x1), (2, v2)] [] h Q := by
  refine wp_alR (ins := .aload_n 2) (k := 2) (pc' := 96) ⟨rfl, rfl⟩ (Or.inr ⟨_, rfl, rfl, rfl⟩) rfl r2 ?_
  refine wp_run 1 (pc' := 97) (lv' := [(0, .ref a0), (1, .int x1), (2, v2)]) (st' := [.null, v2]) rfl ?_
  subst n1
  exact wp_pf ⟨rfl, rfl⟩ rfl (Or.inl rfl) e hk (fit_o (Or.inl rfl)) (wp_weak (re_sb_at rfl (re_sb_at rfl (re_sb_at rfl (re_sb_nil _)))) K)
set_option maxRecDepth 20000 in
theorem B385_100 {SC : List Value} {d s : Nat} {h : re_H} {Q : Nat → Value → re_H → Prop} {a0 : Nat} {x1 : Int32} {v2 : Value} (r2 : re_R v2)
    {b1 : Nat} (n1 : v2 = .ref b1) {ve2 : Value} (re2 : re_R ve2) (e3 : nb_fd h b1 10 3 (ve2)) {c : Nat} {w : List Value} (eg : re_hg h a0 = some (c, w)) (ec : c = 6) (K : wp SC 386 d 0 0 [(0, .ref a0), (1, ve2)] [] h (wp_ret SC 385 (d + 1) s 108 [(0, .ref a0), (1, .int x1), (2, .ref b1)] [] Q)) : wp SC 385 (d + 1) s 100 [(0, .ref a0), (1, .int x1), (2, v2)] [] h Q := by
  refine wp_run 1 (pc' := 101) (lv' := [(0, .ref a0), (1, .int x1), (2, v2)]) (st' := [.ref a0]) rfl ?_
  refine wp_alR (ins := .aload_n 2) (k := 2) (pc' := 102) ⟨rfl, rfl⟩ (Or.inr ⟨_, rfl, rfl, rfl⟩) rfl r2 ?_
  subst n1
  obtain ⟨w3, e3a, e3b⟩ := e3
  refine wp_gf ⟨rfl, rfl⟩ rfl e3a e3b ?_
  have eA : lv_args 0 (.ref a0 :: [ve2].reverse) = [(0, .ref a0), (1, ve2)] := by simp [lv_args, vc_i, vc_l, vc_r, vc_n, vc_a, re_R_cat re2]
  refine wp_callV (ar := [ve2]) (rest := []) (s1 := 0) (s2 := s) (d' := d) ⟨rfl, rfl⟩ rfl (Or.inl rfl)  (by simp [re_cat, vc_i, vc_l, vc_r, vc_n, vc_a]) (by rw [show re_cat (.ref a0 :: [ve2].reverse) = 2 from by simp [re_cat, vc_i, vc_l, vc_r, vc_n, vc_a, re_R_cat re2]]; decide) (by decide) rfl eg ec rfl (Nat.le_of_eq (Nat.zero_add s)) ?_
  rw [eA]
  exact wp_mono K (fun k v h' z => wp_ret_weak (re_sb_at rfl (re_sb_at rfl (re_sb_at rfl (re_sb_nil _)))) z)
set_option maxRecDepth 20000 in
theorem B385_108 {SC : List Value} {d s : Nat} {h : re_H} {Q : Nat → Value → re_H → Prop} {a0 : Nat} {x1 : Int32} {v2 : Value} (r2 : re_R v2)
    {b1 : Nat} (n1 : v2 = .ref b1) {ve2 : Value} (re2 : re_R ve2) (e3 : nb_fd h b1 10 4 (ve2)) {c : Nat} {w : List Value} (eg : re_hg h a0 = some (c, w)) (ec : c = 6) (K : wp SC 386 d 0 0 [(0, .ref a0), (1, ve2)] [] h (wp_ret SC 385 (d + 1) s 116 [(0, .ref a0), (1, .int x1)] [] Q)) : wp SC 385 (d + 1) s 108 [(0, .ref a0), (1, .int x1), (2, v2)] [] h Q := by
  refine wp_run 1 (pc' := 109) (lv' := [(0, .ref a0), (1, .int x1), (2, v2)]) (st' := [.ref a0]) rfl ?_
  refine wp_alR (ins := .aload_n 2) (k := 2) (pc' := 110) ⟨rfl, rfl⟩ (Or.inr ⟨_, rfl, rfl, rfl⟩) rfl r2 ?_
  subst n1
  obtain ⟨w3, e3a, e3b⟩ := e3
  refine wp_gf ⟨rfl, rfl⟩ rfl e3a e3b ?_
  have eA : lv_args 0 (.ref a0 :: [ve2].reverse) = [(0, .ref a0), (1, ve2)] := by simp [lv_args, vc_i, vc_l, vc_r, vc_n, vc_a, re_R_cat re2]
  refine wp_callV (ar := [ve2]) (rest := []) (s1 := 0) (s2 := s) (d' := d) ⟨rfl, rfl⟩ rfl (Or.inl rfl)  (by simp [re_cat, vc_i, vc_l, vc_r, vc_n, vc_a]) (by rw [show re_cat (.ref a0 :: [ve2].reverse) = 2 from by simp [re_cat, vc_i, vc_l, vc_r, vc_n, vc_a, re_R_cat re2]]; decide) (by decide) rfl eg ec rfl (Nat.le_of_eq (Nat.zero_add s)) ?_
  rw [eA]
  exact wp_mono K (fun k v h' z => wp_ret_weak (re_sb_at rfl (re_sb_at rfl (re_sb_nil _))) z)
set_option maxRecDepth 20000 in
theorem B385_116 {SC : List Value} {d s : Nat} {h : re_H} {Q : Nat → Value → re_H → Prop} {a0 : Nat} {x1 : Int32}
    (K : wp SC 385 d s 69 [(0, .ref a0), (1, .int (x1 + (i32 1)))] [] h Q) : wp SC 385 d s 116 [(0, .ref a0), (1, .int x1)] [] h Q := by
  refine wp_run 2 (pc' := 69) (lv' := [(1, .int (x1 + (i32 1))), (0, .ref a0)]) (st' := []) rfl ?_
  exact wp_weak (re_sb_at rfl (re_sb_at rfl (re_sb_nil _))) K
set_option maxRecDepth 20000 in
theorem B385_122 {SC : List Value} {d s : Nat} {h : re_H} {Q : Nat → Value → re_H → Prop} {a0 : Nat}
    {c : Nat} {w : List Value} (eg : re_hg h a0 = some (c, w)) (ec : c = 6) (K : wp SC 387 d 0 0 [(0, .ref a0)] [] h (wp_ret SC 385 (d + 1) s 126 [] [] Q)) : wp SC 385 (d + 1) s 122 [(0, .ref a0)] [] h Q := by
  refine wp_run 1 (pc' := 123) (lv' := [(0, .ref a0)]) (st' := [.ref a0]) rfl ?_
  have eA : lv_args 0 (.ref a0 :: [].reverse) = [(0, .ref a0)] := by simp [lv_args, vc_i, vc_l, vc_r, vc_n, vc_a]
  refine wp_callV (ar := []) (rest := []) (s1 := 0) (s2 := s) (d' := d) ⟨rfl, rfl⟩ rfl (Or.inl rfl)  (by simp [re_cat, vc_i, vc_l, vc_r, vc_n, vc_a]) (by rw [show re_cat (.ref a0 :: [].reverse) = 1 from by simp [re_cat, vc_i, vc_l, vc_r, vc_n, vc_a]]; decide) (by decide) rfl eg ec rfl (Nat.le_of_eq (Nat.zero_add s)) ?_
  rw [eA]
  exact wp_mono K (fun k v h' z => wp_ret_weak (re_sb_nil _) z)
set_option maxRecDepth 20000 in
theorem B385_126 {SC : List Value} {d s : Nat} {h : re_H} {Q : Nat → Value → re_H → Prop} 
    (K : Q 0 .null h) : wp SC 385 d s 126 [] [] h Q := by
  exact wp_retv ⟨rfl, rfl⟩ rfl K
theorem B386_0 {SC : List Value} {d s : Nat} {h : re_H} {Q : Nat → Value → re_H → Prop} {a0 : Nat} {v1 : Value} (r1 : re_R v1)
    (K1 : v1 = .null → wp SC 386 d s 29 [] [] h Q) (K2 : ∀ b1, v1 = .ref b1 → wp SC 386 d s 4 [(0, .ref a0), (1, .ref b1)] [] h Q) : wp SC 386 d s 0 [(0, .ref a0), (1, v1)] [] h Q := by
  refine wp_alR (ins := .aload_n 1) (k := 1) (pc' := 1) ⟨rfl, rfl⟩ (Or.inr ⟨_, rfl, rfl, rfl⟩) rfl r1 ?_
  exact wp_ifn ⟨rfl, rfl⟩ rfl r1 (fun hc => by subst hc; exact wp_weak (re_sb_nil _) (K1 rfl)) (fun bb hc => by subst hc; exact wp_weak (re_sb_at rfl (re_sb_at rfl (re_sb_nil _))) (K2 bb rfl))
theorem B386_4 {SC : List Value} {d s : Nat} {h : re_H} {Q : Nat → Value → re_H → Prop} {a0 : Nat} {a1 : Nat}
    {xe1 : Int32} (e2 : nb_fd h a1 10 5 (.int xe1)) (K1 : ¬ xe1 = 0 → wp SC 386 d s 29 [] [] h Q) (K2 : xe1 = 0 → wp SC 386 d s 11 [(0, .ref a0), (1, .ref a1)] [] h Q) : wp SC 386 d s 4 [(0, .ref a0), (1, .ref a1)] [] h Q := by
  refine wp_run 1 (pc' := 5) (lv' := [(0, .ref a0), (1, .ref a1)]) (st' := [.ref a1]) rfl ?_
  obtain ⟨w2, e2a, e2b⟩ := e2
  refine wp_gf ⟨rfl, rfl⟩ rfl e2a e2b ?_
  exact wp_if ⟨rfl, rfl⟩ rfl (fun hc => wp_weak (re_sb_nil _) (K1 (ic1_ne hc))) (fun hc => wp_weak (re_sb_at rfl (re_sb_at rfl (re_sb_nil _))) (K2 (ic0_ne hc)))
theorem B386_11 {SC : List Value} {d s : Nat} {h : re_H} {Q : Nat → Value → re_H → Prop} {a0 : Nat} {a1 : Nat}
    {w : List Value} (e : re_hg h a1 = some (10, w)) (hk : 5 < w.length) (K : wp SC 386 d s 16 [(0, .ref a0), (1, .ref a1)] [] (re_hw h a1 (10, w.set 5 (.int (i32 1)))) Q) : wp SC 386 d s 11 [(0, .ref a0), (1, .ref a1)] [] h Q := by
  refine wp_run 2 (pc' := 13) (lv' := [(0, .ref a0), (1, .ref a1)]) (st' := [.int (i32 1), .ref a1]) rfl ?_
  exact wp_pf ⟨rfl, rfl⟩ rfl (Or.inl rfl) e hk (fit_z (Or.inr rfl)) (wp_weak (re_sb_at rfl (re_sb_at rfl (re_sb_nil _))) K)
theorem B386_16 {SC : List Value} {d s : Nat} {h : re_H} {Q : Nat → Value → re_H → Prop} {a0 : Nat} {a1 : Nat}
    {ve1 : Value} (re1 : re_R ve1) (e2 : nb_fd h a0 6 3 (ve1)) {w : List Value} (e : re_hg h a1 = some (10, w)) (hk : 7 < w.length) (K : wp SC 386 d s 24 [(0, .ref a0), (1, .ref a1)] [] (re_hw h a1 (10, w.set 7 (ve1))) Q) : wp SC 386 d s 16 [(0, .ref a0), (1, .ref a1)] [] h Q := by
  refine wp_run 2 (pc' := 18) (lv' := [(0, .ref a0), (1, .ref a1)]) (st' := [.ref a0, .ref a1]) rfl ?_
  obtain ⟨w2, e2a, e2b⟩ := e2
  refine wp_gf ⟨rfl, rfl⟩ rfl e2a e2b ?_
  exact wp_pf ⟨rfl, rfl⟩ rfl (Or.inl rfl) e hk (fit_o re1) (wp_weak (re_sb_at rfl (re_sb_at rfl (re_sb_nil _))) K)
theorem B386_24 {SC : List Value} {d s : Nat} {h : re_H} {Q : Nat → Value → re_H → Prop} {a0 : Nat} {a1 : Nat}
    {w : List Value} (e : re_hg h a0 = some (6, w)) (hk : 3 < w.length) (K : wp SC 386 d s 29 [] [] (re_hw h a0 (6, w.set 3 (.ref a1))) Q) : wp SC 386 d s 24 [(0, .ref a0), (1, .ref a1)] [] h Q := by
  refine wp_run 2 (pc' := 26) (lv' := [(0, .ref a0), (1, .ref a1)]) (st' := [.ref a1, .ref a0]) rfl ?_
  exact wp_pf ⟨rfl, rfl⟩ rfl (Or.inl rfl) e hk (fit_o (Or.inr ⟨_, rfl⟩)) (wp_weak (re_sb_nil _) K)
theorem B386_29 {SC : List Value} {d s : Nat} {h : re_H} {Q : Nat → Value → re_H → Prop} 
    (K : Q 0 .null h) : wp SC 386 d s 29 [] [] h Q := by
  exact wp_retv ⟨rfl, rfl⟩ rfl K
theorem B387_0 {SC : List Value} {d s : Nat} {h : re_H} {Q : Nat → Value → re_H → Prop} {a0 : Nat}
    {w : List Value} (e : re_hg h a0 = some (6, w)) (hk : 2 < w.length) (K : wp SC 387 d s 5 [(0, .ref a0)] [] (re_hw h a0 (6, w.set 2 (.null))) Q) : wp SC 387 d s 0 [(0, .ref a0)] [] h Q := by
  refine wp_run 2 (pc' := 2) (lv' := [(0, .ref a0)]) (st' := [.null, .ref a0]) rfl ?_
  exact wp_pf ⟨rfl, rfl⟩ rfl (Or.inl rfl) e hk (fit_o (Or.inl rfl)) (wp_weak (re_sb_at rfl (re_sb_nil _)) K)
theorem B387_5 {SC : List Value} {d s : Nat} {h : re_H} {Q : Nat → Value → re_H → Prop} {a0 : Nat}
    {w : List Value} (e : re_hg h a0 = some (6, w)) (hk : 4 < w.length) (K : wp SC 387 d s 10 [(0, .ref a0)] [] (re_hw h a0 (6, w.set 4 (.int (i32 0)))) Q) : wp SC 387 d s 5 [(0, .ref a0)] [] h Q := by
  refine wp_run 2 (pc' := 7) (lv' := [(0, .ref a0)]) (st' := [.int (i32 0), .ref a0]) rfl ?_
  exact wp_pf ⟨rfl, rfl⟩ rfl (Or.inl rfl) e hk (fit_i _) (wp_weak (re_sb_at rfl (re_sb_nil _)) K)
theorem B387_10 {SC : List Value} {d s : Nat} {h : re_H} {Q : Nat → Value → re_H → Prop} {a0 : Nat}
    {w : List Value} (e : re_hg h a0 = some (6, w)) (hk : 5 < w.length) (K : wp SC 387 d s 15 [(0, .ref a0)] [] (re_hw h a0 (6, w.set 5 (.int (i32 0)))) Q) : wp SC 387 d s 10 [(0, .ref a0)] [] h Q := by
  refine wp_run 2 (pc' := 12) (lv' := [(0, .ref a0)]) (st' := [.int (i32 0), .ref a0]) rfl ?_
  exact wp_pf ⟨rfl, rfl⟩ rfl (Or.inl rfl) e hk (fit_i _) (wp_weak (re_sb_at rfl (re_sb_nil _)) K)
theorem B387_15 {SC : List Value} {d s : Nat} {h : re_H} {Q : Nat → Value → re_H → Prop} {a0 : Nat}
    {ve1 : Value} (re1 : re_R ve1) (e2 : nb_fd h a0 6 1 (ve1)) (K : wp SC 387 d s 20 [(0, .ref a0), (1, ve1)] [] h Q) : wp SC 387 d s 15 [(0, .ref a0)] [] h Q := by
  refine wp_run 1 (pc' := 16) (lv' := [(0, .ref a0)]) (st' := [.ref a0]) rfl ?_
  obtain ⟨w2, e2a, e2b⟩ := e2
  refine wp_gf ⟨rfl, rfl⟩ rfl e2a e2b ?_
  refine wp_asR (ins := .astore_n 1) (k := 1) (pc' := 20) (lv' := [(1, ve1), (0, .ref a0)]) ⟨rfl, rfl⟩ (Or.inr ⟨_, rfl, rfl, rfl⟩) (by decide) re1 rfl ?_
  exact wp_weak (re_sb_at rfl (re_sb_at rfl (re_sb_nil _))) K
theorem B387_20 {SC : List Value} {d s : Nat} {h : re_H} {Q : Nat → Value → re_H → Prop} {a0 : Nat} {v1 : Value} (r1 : re_R v1)
    (K1 : v1 = .null → wp SC 387 d s 85 [] [] h Q) (K2 : ∀ b1, v1 = .ref b1 → wp SC 387 d s 24 [(0, .ref a0), (1, .ref b1)] [] h Q) : wp SC 387 d s 20 [(0, .ref a0), (1, v1)] [] h Q := by
  refine wp_alR (ins := .aload_n 1) (k := 1) (pc' := 21) ⟨rfl, rfl⟩ (Or.inr ⟨_, rfl, rfl, rfl⟩) rfl r1 ?_
  exact wp_ifn ⟨rfl, rfl⟩ rfl r1 (fun hc => by subst hc; exact wp_weak (re_sb_nil _) (K1 rfl)) (fun bb hc => by subst hc; exact wp_weak (re_sb_at rfl (re_sb_at rfl (re_sb_nil _))) (K2 bb rfl))
theorem B387_24 {SC : List Value} {d s : Nat} {h : re_H} {Q : Nat → Value → re_H → Prop} {a0 : Nat} {a1 : Nat}
    {xe1 : Int32} (e2 : nb_fd h a1 10 5 (.int xe1)) (K1 : xe1 = 0 → wp SC 387 d s 49 [(0, .ref a0), (1, .ref a1)] [] h Q) (K2 : ¬ xe1 = 0 → wp SC 387 d s 31 [(0, .ref a0), (1, .ref a1)] [] h Q) : wp SC 387 d s 24 [(0, .ref a0), (1, .ref a1)] [] h Q := by
  refine wp_run 1 (pc' := 25) (lv' := [(0, .ref a0), (1, .ref a1)]) (st' := [.ref a1]) rfl ?_
  obtain ⟨w2, e2a, e2b⟩ := e2
  refine wp_gf ⟨rfl, rfl⟩ rfl e2a e2b ?_
  exact wp_if ⟨rfl, rfl⟩ rfl (fun hc => wp_weak (re_sb_at rfl (re_sb_at rfl (re_sb_nil _))) (K1 (ic1_eq hc))) (fun hc => wp_weak (re_sb_at rfl (re_sb_at rfl (re_sb_nil _))) (K2 (ic0_eq hc)))
theorem B387_31 {SC : List Value} {d s : Nat} {h : re_H} {Q : Nat → Value → re_H → Prop} {a0 : Nat} {a1 : Nat}
    {w : List Value} (e : re_hg h a1 = some (10, w)) (hk : 5 < w.length) (K : wp SC 387 d s 36 [(0, .ref a0), (1, .ref a1)] [] (re_hw h a1 (10, w.set 5 (.int (i32 0)))) Q) : wp SC 387 d s 31 [(0, .ref a0), (1, .ref a1)] [] h Q := by
  refine wp_run 2 (pc' := 33) (lv' := [(0, .ref a0), (1, .ref a1)]) (st' := [.int (i32 0), .ref a1]) rfl ?_
  exact wp_pf ⟨rfl, rfl⟩ rfl (Or.inl rfl) e hk (fit_z (Or.inl rfl)) (wp_weak (re_sb_at rfl (re_sb_at rfl (re_sb_nil _))) K)
theorem B387_36 {SC : List Value} {d s : Nat} {h : re_H} {Q : Nat → Value → re_H → Prop} {a0 : Nat} {a1 : Nat}
    {xe1 : Int32} (e2 : nb_fd h a0 6 5 (.int xe1)) {w : List Value} (e : re_hg h a0 = some (6, w)) (hk : 5 < w.length) (K : wp SC 387 d s 46 [(0, .ref a0), (1, .ref a1)] [] (re_hw h a0 (6, w.set 5 (.int (xe1 + (i32 1))))) Q) : wp SC 387 d s 36 [(0, .ref a0), (1, .ref a1)] [] h Q := by
  refine wp_run 2 (pc' := 38) (lv' := [(0, .ref a0), (1, .ref a1)]) (st' := [.ref a0, .ref a0]) rfl ?_
  obtain ⟨w2, e2a, e2b⟩ := e2
  refine wp_gf ⟨rfl, rfl⟩ rfl e2a e2b ?_
  refine wp_run 2 (pc' := 43) (lv' := [(0, .ref a0), (1, .ref a1)]) (st' := [.int (xe1 + (i32 1)), .ref a0]) rfl ?_
  exact wp_pf ⟨rfl, rfl⟩ rfl (Or.inl rfl) e hk (fit_i _) (wp_weak (re_sb_at rfl (re_sb_at rfl (re_sb_nil _))) K)
theorem B387_46 {SC : List Value} {d s : Nat} {h : re_H} {Q : Nat → Value → re_H → Prop} {a0 : Nat} {a1 : Nat}
    (K : wp SC 387 d s 77 [(0, .ref a0), (1, .ref a1)] [] h Q) : wp SC 387 d s 46 [(0, .ref a0), (1, .ref a1)] [] h Q := by
  refine wp_run 1 (pc' := 77) (lv' := [(0, .ref a0), (1, .ref a1)]) (st' := []) rfl ?_
  exact wp_weak (re_sb_at rfl (re_sb_at rfl (re_sb_nil _))) K
theorem B387_49 {SC : List Value} {d s : Nat} {h : re_H} {Q : Nat → Value → re_H → Prop} {a0 : Nat} {a1 : Nat}
    {w : List Value} (e : re_hg h a1 = some (10, w)) (hk : 0 < w.length) (K : wp SC 387 d s 54 [(0, .ref a0), (1, .ref a1)] [] (re_hw h a1 (10, w.set 0 (.null))) Q) : wp SC 387 d s 49 [(0, .ref a0), (1, .ref a1)] [] h Q := by
  refine wp_run 2 (pc' := 51) (lv' := [(0, .ref a0), (1, .ref a1)]) (st' := [.null, .ref a1]) rfl ?_
  exact wp_pf ⟨rfl, rfl⟩ rfl (Or.inl rfl) e hk (fit_o (Or.inl rfl)) (wp_weak (re_sb_at rfl (re_sb_at rfl (re_sb_nil _))) K)
theorem B387_54 {SC : List Value} {d s : Nat} {h : re_H} {Q : Nat → Value → re_H → Prop} {a0 : Nat} {a1 : Nat}
    {w : List Value} (e : re_hg h a1 = some (10, w)) (hk : 3 < w.length) (K : wp SC 387 d s 59 [(0, .ref a0), (1, .ref a1)] [] (re_hw h a1 (10, w.set 3 (.null))) Q) : wp SC 387 d s 54 [(0, .ref a0), (1, .ref a1)] [] h Q := by
  refine wp_run 2 (pc' := 56) (lv' := [(0, .ref a0), (1, .ref a1)]) (st' := [.null, .ref a1]) rfl ?_
  exact wp_pf ⟨rfl, rfl⟩ rfl (Or.inl rfl) e hk (fit_o (Or.inl rfl)) (wp_weak (re_sb_at rfl (re_sb_at rfl (re_sb_nil _))) K)
theorem B387_59 {SC : List Value} {d s : Nat} {h : re_H} {Q : Nat → Value → re_H → Prop} {a0 : Nat} {a1 : Nat}
    {w : List Value} (e : re_hg h a1 = some (10, w)) (hk : 4 < w.length) (K : wp SC 387 d s 64 [(0, .ref a0), (1, .ref a1)] [] (re_hw h a1 (10, w.set 4 (.null))) Q) : wp SC 387 d s 59 [(0, .ref a0), (1, .ref a1)] [] h Q := by
  refine wp_run 2 (pc' := 61) (lv' := [(0, .ref a0), (1, .ref a1)]) (st' := [.null, .ref a1]) rfl ?_
  exact wp_pf ⟨rfl, rfl⟩ rfl (Or.inl rfl) e hk (fit_o (Or.inl rfl)) (wp_weak (re_sb_at rfl (re_sb_at rfl (re_sb_nil _))) K)
theorem B387_64 {SC : List Value} {d s : Nat} {h : re_H} {Q : Nat → Value → re_H → Prop} {a0 : Nat} {a1 : Nat}
    {ve1 : Value} (re1 : re_R ve1) (e2 : nb_fd h a0 6 2 (ve1)) {w : List Value} (e : re_hg h a1 = some (10, w)) (hk : 7 < w.length) (K : wp SC 387 d s 72 [(0, .ref a0), (1, .ref a1)] [] (re_hw h a1 (10, w.set 7 (ve1))) Q) : wp SC 387 d s 64 [(0, .ref a0), (1, .ref a1)] [] h Q := by
  refine wp_run 2 (pc' := 66) (lv' := [(0, .ref a0), (1, .ref a1)]) (st' := [.ref a0, .ref a1]) rfl ?_
  obtain ⟨w2, e2a, e2b⟩ := e2
  refine wp_gf ⟨rfl, rfl⟩ rfl e2a e2b ?_
  exact wp_pf ⟨rfl, rfl⟩ rfl (Or.inl rfl) e hk (fit_o re1) (wp_weak (re_sb_at rfl (re_sb_at rfl (re_sb_nil _))) K)
theorem B387_72 {SC : List Value} {d s : Nat} {h : re_H} {Q : Nat → Value → re_H → Prop} {a0 : Nat} {a1 : Nat}
    {w : List Value} (e : re_hg h a0 = some (6, w)) (hk : 2 < w.length) (K : wp SC 387 d s 77 [(0, .ref a0), (1, .ref a1)] [] (re_hw h a0 (6, w.set 2 (.ref a1))) Q) : wp SC 387 d s 72 [(0, .ref a0), (1, .ref a1)] [] h Q := by
  refine wp_run 2 (pc' := 74) (lv' := [(0, .ref a0), (1, .ref a1)]) (st' := [.ref a1, .ref a0]) rfl ?_
  exact wp_pf ⟨rfl, rfl⟩ rfl (Or.inl rfl) e hk (fit_o (Or.inr ⟨_, rfl⟩)) (wp_weak (re_sb_at rfl (re_sb_at rfl (re_sb_nil _))) K)
theorem B387_77 {SC : List Value} {d s : Nat} {h : re_H} {Q : Nat → Value → re_H → Prop} {a0 : Nat} {a1 : Nat}
    {ve1 : Value} (re1 : re_R ve1) (e2 : nb_fd h a1 10 6 (ve1)) (K : wp SC 387 d s 20 [(0, .ref a0), (1, ve1)] [] h Q) : wp SC 387 d s 77 [(0, .ref a0), (1, .ref a1)] [] h Q := by
  refine wp_run 1 (pc' := 78) (lv' := [(0, .ref a0), (1, .ref a1)]) (st' := [.ref a1]) rfl ?_
  obtain ⟨w2, e2a, e2b⟩ := e2
  refine wp_gf ⟨rfl, rfl⟩ rfl e2a e2b ?_
  refine wp_asR (ins := .astore_n 1) (k := 1) (pc' := 82) (lv' := [(1, ve1), (0, .ref a0)]) ⟨rfl, rfl⟩ (Or.inr ⟨_, rfl, rfl, rfl⟩) (by decide) re1 rfl ?_
  refine wp_run 1 (pc' := 20) (lv' := [(1, ve1), (0, .ref a0)]) (st' := []) rfl ?_
  exact wp_weak (re_sb_at rfl (re_sb_at rfl (re_sb_nil _))) K
theorem B387_85 {SC : List Value} {d s : Nat} {h : re_H} {Q : Nat → Value → re_H → Prop} 
    (K : Q 0 .null h) : wp SC 387 d s 85 [] [] h Q := by
  exact wp_retv ⟨rfl, rfl⟩ rfl K
theorem B388_0 {SC : List Value} {d s : Nat} {h : re_H} {Q : Nat → Value → re_H → Prop} {a0 : Nat} {x1 : Int32} {l2 : Int64} {v4 : Value} (r4 : re_R v4) {v5 : Value} (r5 : re_R v5)
    {ve1 : Value} (re1 : re_R ve1) (e2 : nb_fd h a0 6 2 (ve1)) (K1 : ve1 = .null → wp SC 388 d s 11 [(0, .ref a0), (1, .int x1), (2, .long l2), (4, v4), (5, v5)] [] h Q) (K2 : ∀ b3, ve1 = .ref b3 → wp SC 388 d s 38 [(0, .ref a0), (1, .int x1), (2, .long l2), (4, v4), (5, v5), (6, .ref b3)] [] h Q) : wp SC 388 d s 0 [(0, .ref a0), (1, .int x1), (2, .long l2), (4, v4), (5, v5)] [] h Q := by
  refine wp_run 1 (pc' := 1) (lv' := [(0, .ref a0), (1, .int x1), (2, .long l2), (4, v4), (5, v5)]) (st' := [.ref a0]) rfl ?_
  obtain ⟨w2, e2a, e2b⟩ := e2
  refine wp_gf ⟨rfl, rfl⟩ rfl e2a e2b ?_
  refine wp_asR (ins := .astore 6) (k := 6) (pc' := 6) (lv' := [(6, ve1), (0, .ref a0), (1, .int x1), (2, .long l2), (4, v4), (5, v5)]) ⟨rfl, rfl⟩ (Or.inl ⟨_, rfl, rfl, rfl⟩) (by decide) re1 (by simp [re_s1, re_c2, re_lk, vc_i, vc_l, vc_r, vc_n, vc_a, re_R_cat r5]) ?_
  refine wp_alR (ins := .aload 6) (k := 6) (pc' := 8) ⟨rfl, rfl⟩ (Or.inl ⟨_, rfl, rfl, rfl⟩) rfl re1 ?_
  exact wp_ifnn ⟨rfl, rfl⟩ rfl re1 (fun bb hc => by subst hc; exact wp_weak (re_sb_at rfl (re_sb_at rfl (re_sb_at rfl (re_sb_at rfl (re_sb_at rfl (re_sb_at rfl (re_sb_nil _))))))) (K2 bb rfl)) (fun hc => by subst hc; exact wp_weak (re_sb_at rfl (re_sb_at rfl (re_sb_at rfl (re_sb_at rfl (re_sb_at rfl (re_sb_nil _)))))) (K1 rfl))
theorem B388_11 {SC : List Value} {d s : Nat} {h : re_H} {Q : Nat → Value → re_H → Prop} {a0 : Nat} {x1 : Int32} {l2 : Int64} {v4 : Value} (r4 : re_R v4) {v5 : Value} (r5 : re_R v5)
    (K : wp SC 388 d s 14 [(0, .ref a0), (1, .int x1), (2, .long l2), (4, v4), (5, v5)] [.ref h.1] (re_hq h (10, [.null, .int 0, .long 0, .null, .null, .int 0, .null, .null])) Q) : wp SC 388 d s 11 [(0, .ref a0), (1, .int x1), (2, .long l2), (4, v4), (5, v5)] [] h Q := by
  exact wp_new (vs := [.null, .int 0, .long 0, .null, .null, .int 0, .null, .null]) ⟨rfl, rfl⟩ rfl (by decide) (by decide) (wp_weak (re_sb_at rfl (re_sb_at rfl (re_sb_at rfl (re_sb_at rfl (re_sb_at rfl (re_sb_nil _)))))) K)
theorem B388_14 {SC : List Value} {d s : Nat} {h : re_H} {Q : Nat → Value → re_H → Prop} {a0 : Nat} {x1 : Int32} {l2 : Int64} {v4 : Value} (r4 : re_R v4) {v5 : Value} (r5 : re_R v5) {as0 : Nat}
    {c : Nat} {w : List Value} (eg : re_hg h as0 = some (c, w)) (ec : c = 10) (K : wp SC 704 d 0 0 [(0, .ref as0)] [] h (wp_ret SC 388 (d + 1) s 18 [(0, .ref a0), (1, .int x1), (2, .long l2), (4, v4), (5, v5)] [.ref as0] Q)) : wp SC 388 (d + 1) s 14 [(0, .ref a0), (1, .int x1), (2, .long l2), (4, v4), (5, v5)] [.ref as0] h Q := by
  refine wp_run 1 (pc' := 15) (lv' := [(0, .ref a0), (1, .int x1), (2, .long l2), (4, v4), (5, v5)]) (st' := [.ref as0, .ref as0]) rfl ?_
  have eA : lv_args 0 (.ref as0 :: [].reverse) = [(0, .ref as0)] := by simp [lv_args, vc_i, vc_l, vc_r, vc_n, vc_a]
  refine wp_callI (ar := []) (rest := [.ref as0]) (s1 := 0) (s2 := s) (d' := d) ⟨rfl, rfl⟩ rfl (Or.inr rfl)  (by simp [re_cat, vc_i, vc_l, vc_r, vc_n, vc_a]) (by rw [show re_cat (.ref as0 :: [].reverse) = 1 from by simp [re_cat, vc_i, vc_l, vc_r, vc_n, vc_a]]; decide) (by decide) rfl eg ec rfl (Nat.le_of_eq (Nat.zero_add s)) ?_
  rw [eA]
  exact wp_mono K (fun k v h' z => wp_ret_weak (re_sb_at rfl (re_sb_at rfl (re_sb_at rfl (re_sb_at rfl (re_sb_at rfl (re_sb_nil _)))))) z)
theorem B388_18 {SC : List Value} {d s : Nat} {h : re_H} {Q : Nat → Value → re_H → Prop} {a0 : Nat} {x1 : Int32} {l2 : Int64} {v4 : Value} (r4 : re_R v4) {v5 : Value} (r5 : re_R v5) {as0 : Nat}
    {ve1 : Value} (re1 : re_R ve1) (e2 : nb_fd h a0 6 1 (ve1)) {w : List Value} (e : re_hg h as0 = some (10, w)) (hk : 6 < w.length) (K : wp SC 388 d s 29 [(0, .ref a0), (1, .int x1), (2, .long l2), (4, v4), (5, v5), (6, .ref as0)] [] (re_hw h as0 (10, w.set 6 (ve1))) Q) : wp SC 388 d s 18 [(0, .ref a0), (1, .int x1), (2, .long l2), (4, v4), (5, v5)] [.ref as0] h Q := by
  refine wp_asR (ins := .astore 6) (k := 6) (pc' := 20) (lv' := [(6, .ref as0), (0, .ref a0), (1, .int x1), (2, .long l2), (4, v4), (5, v5)]) ⟨rfl, rfl⟩ (Or.inl ⟨_, rfl, rfl, rfl⟩) (by decide) (Or.inr ⟨_, rfl⟩) (by simp [re_s1, re_s2, re_c2, re_lk, vc_i, vc_l, vc_r, vc_n, vc_a, re_R_cat r5]) ?_
  refine wp_run 2 (pc' := 23) (lv' := [(6, .ref as0), (0, .ref a0), (1, .int x1), (2, .long l2), (4, v4), (5, v5)]) (st' := [.ref a0, .ref as0]) rfl ?_
  obtain ⟨w2, e2a, e2b⟩ := e2
  refine wp_gf ⟨rfl, rfl⟩ rfl e2a e2b ?_
  exact wp_pf ⟨rfl, rfl⟩ rfl (Or.inl rfl) e hk (fit_o re1) (wp_weak (re_sb_at rfl (re_sb_at rfl (re_sb_at rfl (re_sb_at rfl (re_sb_at rfl (re_sb_at rfl (re_sb_nil _))))))) K)
theorem B388_29 {SC : List Value} {d s : Nat} {h : re_H} {Q : Nat → Value → re_H → Prop} {a0 : Nat} {x1 : Int32} {l2 : Int64} {v4 : Value} (r4 : re_R v4) {v5 : Value} (r5 : re_R v5) {a6 : Nat}
    {w : List Value} (e : re_hg h a0 = some (6, w)) (hk : 1 < w.length) (K : wp SC 388 d s 35 [(0, .ref a0), (1, .int x1), (2, .long l2), (4, v4), (5, v5), (6, .ref a6)] [] (re_hw h a0 (6, w.set 1 (.ref a6))) Q) : wp SC 388 d s 29 [(0, .ref a0), (1, .int x1), (2, .long l2), (4, v4), (5, v5), (6, .ref a6)] [] h Q := by
  refine wp_run 2 (pc' := 32) (lv' := [(0, .ref a0), (1, .int x1), (2, .long l2), (4, v4), (5, v5), (6, .ref a6)]) (st' := [.ref a6, .ref a0]) rfl ?_
  exact wp_pf ⟨rfl, rfl⟩ rfl (Or.inl rfl) e hk (fit_o (Or.inr ⟨_, rfl⟩)) (wp_weak (re_sb_at rfl (re_sb_at rfl (re_sb_at rfl (re_sb_at rfl (re_sb_at rfl (re_sb_at rfl (re_sb_nil _))))))) K)
theorem B388_35 {SC : List Value} {d s : Nat} {h : re_H} {Q : Nat → Value → re_H → Prop} {a0 : Nat} {x1 : Int32} {l2 : Int64} {v4 : Value} (r4 : re_R v4) {v5 : Value} (r5 : re_R v5) {a6 : Nat}
    (K : wp SC 388 d s 53 [(0, .ref a0), (1, .int x1), (2, .long l2), (4, v4), (5, v5), (6, .ref a6)] [] h Q) : wp SC 388 d s 35 [(0, .ref a0), (1, .int x1), (2, .long l2), (4, v4), (5, v5), (6, .ref a6)] [] h Q := by
  refine wp_run 1 (pc' := 53) (lv' := [(0, .ref a0), (1, .int x1), (2, .long l2), (4, v4), (5, v5), (6, .ref a6)]) (st' := []) rfl ?_
  exact wp_weak (re_sb_at rfl (re_sb_at rfl (re_sb_at rfl (re_sb_at rfl (re_sb_at rfl (re_sb_at rfl (re_sb_nil _))))))) K
theorem B388_38 {SC : List Value} {d s : Nat} {h : re_H} {Q : Nat → Value → re_H → Prop} {a0 : Nat} {x1 : Int32} {l2 : Int64} {v4 : Value} (r4 : re_R v4) {v5 : Value} (r5 : re_R v5) {a6 : Nat}
    {ve1 : Value} (re1 : re_R ve1) (e2 : nb_fd h a6 10 7 (ve1)) {w : List Value} (e : re_hg h a0 = some (6, w)) (hk : 2 < w.length) (K : wp SC 388 d s 47 [(0, .ref a0), (1, .int x1), (2, .long l2), (4, v4), (5, v5), (6, .ref a6)] [] (re_hw h a0 (6, w.set 2 (ve1))) Q) : wp SC 388 d s 38 [(0, .ref a0), (1, .int x1), (2, .long l2), (4, v4), (5, v5), (6, .ref a6)] [] h Q := by
  refine wp_run 2 (pc' := 41) (lv' := [(0, .ref a0), (1, .int x1), (2, .long l2), (4, v4), (5, v5), (6, .ref a6)]) (st' := [.ref a6, .ref a0]) rfl ?_
  obtain ⟨w2, e2a, e2b⟩ := e2
  refine wp_gf ⟨rfl, rfl⟩ rfl e2a e2b ?_
  exact wp_pf ⟨rfl, rfl⟩ rfl (Or.inl rfl) e hk (fit_o re1) (wp_weak (re_sb_at rfl (re_sb_at rfl (re_sb_at rfl (re_sb_at rfl (re_sb_at rfl (re_sb_at rfl (re_sb_nil _))))))) K)
theorem B388_47 {SC : List Value} {d s : Nat} {h : re_H} {Q : Nat → Value → re_H → Prop} {a0 : Nat} {x1 : Int32} {l2 : Int64} {v4 : Value} (r4 : re_R v4) {v5 : Value} (r5 : re_R v5) {a6 : Nat}
    {w : List Value} (e : re_hg h a6 = some (10, w)) (hk : 7 < w.length) (K : wp SC 388 d s 53 [(0, .ref a0), (1, .int x1), (2, .long l2), (4, v4), (5, v5), (6, .ref a6)] [] (re_hw h a6 (10, w.set 7 (.null))) Q) : wp SC 388 d s 47 [(0, .ref a0), (1, .int x1), (2, .long l2), (4, v4), (5, v5), (6, .ref a6)] [] h Q := by
  refine wp_run 2 (pc' := 50) (lv' := [(0, .ref a0), (1, .int x1), (2, .long l2), (4, v4), (5, v5), (6, .ref a6)]) (st' := [.null, .ref a6]) rfl ?_
  exact wp_pf ⟨rfl, rfl⟩ rfl (Or.inl rfl) e hk (fit_o (Or.inl rfl)) (wp_weak (re_sb_at rfl (re_sb_at rfl (re_sb_at rfl (re_sb_at rfl (re_sb_at rfl (re_sb_at rfl (re_sb_nil _))))))) K)
theorem B388_53 {SC : List Value} {d s : Nat} {h : re_H} {Q : Nat → Value → re_H → Prop} {a0 : Nat} {x1 : Int32} {l2 : Int64} {v4 : Value} (r4 : re_R v4) {v5 : Value} (r5 : re_R v5) {a6 : Nat}
    {xe1 : Int32} (e2 : nb_fd h a0 6 4 (.int xe1)) {w : List Value} (e : re_hg h a0 = some (6, w)) (hk : 4 < w.length) (K : wp SC 388 d s 63 [(1, .int x1), (2, .long l2), (4, v4), (5, v5), (6, .ref a6)] [] (re_hw h a0 (6, w.set 4 (.int (xe1 + (i32 1))))) Q) : wp SC 388 d s 53 [(0, .ref a0), (1, .int x1), (2, .long l2), (4, v4), (5, v5), (6, .ref a6)] [] h Q := by
  refine wp_run 2 (pc' := 55) (lv' := [(0, .ref a0), (1, .int x1), (2, .long l2), (4, v4), (5, v5), (6, .ref a6)]) (st' := [.ref a0, .ref a0]) rfl ?_
  obtain ⟨w2, e2a, e2b⟩ := e2
  refine wp_gf ⟨rfl, rfl⟩ rfl e2a e2b ?_
  refine wp_run 2 (pc' := 60) (lv' := [(0, .ref a0), (1, .int x1), (2, .long l2), (4, v4), (5, v5), (6, .ref a6)]) (st' := [.int (xe1 + (i32 1)), .ref a0]) rfl ?_
  exact wp_pf ⟨rfl, rfl⟩ rfl (Or.inl rfl) e hk (fit_i _) (wp_weak (re_sb_at rfl (re_sb_at rfl (re_sb_at rfl (re_sb_at rfl (re_sb_at rfl (re_sb_nil _)))))) K)
theorem B388_63 {SC : List Value} {d s : Nat} {h : re_H} {Q : Nat → Value → re_H → Prop} {x1 : Int32} {l2 : Int64} {v4 : Value} (r4 : re_R v4) {v5 : Value} (r5 : re_R v5) {a6 : Nat}
    {w : List Value} (e : re_hg h a6 = some (10, w)) (hk : 1 < w.length) (K : wp SC 388 d s 69 [(2, .long l2), (4, v4), (5, v5), (6, .ref a6)] [] (re_hw h a6 (10, w.set 1 (.int x1))) Q) : wp SC 388 d s 63 [(1, .int x1), (2, .long l2), (4, v4), (5, v5), (6, .ref a6)] [] h Q := by
  refine wp_run 2 (pc' := 66) (lv' := [(1, .int x1), (2, .long l2), (4, v4), (5, v5), (6, .ref a6)]) (st' := [.int x1, .ref a6]) rfl ?_
  exact wp_pf ⟨rfl, rfl⟩ rfl (Or.inl rfl) e hk (fit_i _) (wp_weak (re_sb_at rfl (re_sb_at rfl (re_sb_at rfl (re_sb_at rfl (re_sb_nil _))))) K)
theorem B388_69 {SC : List Value} {d s : Nat} {h : re_H} {Q : Nat → Value → re_H → Prop} {l2 : Int64} {v4 : Value} (r4 : re_R v4) {v5 : Value} (r5 : re_R v5) {a6 : Nat}
    {w : List Value} (e : re_hg h a6 = some (10, w)) (hk : 2 < w.length) (K : wp SC 388 d s 75 [(4, v4), (5, v5), (6, .ref a6)] [] (re_hw h a6 (10, w.set 2 (.long l2))) Q) : wp SC 388 d s 69 [(2, .long l2), (4, v4), (5, v5), (6, .ref a6)] [] h Q := by
  refine wp_run 2 (pc' := 72) (lv' := [(2, .long l2), (4, v4), (5, v5), (6, .ref a6)]) (st' := [.long l2, .ref a6]) rfl ?_
  exact wp_pf ⟨rfl, rfl⟩ rfl (Or.inl rfl) e hk (fit_l _) (wp_weak (re_sb_at rfl (re_sb_at rfl (re_sb_at rfl (re_sb_nil _)))) K)
theorem B388_75 {SC : List Value} {d s : Nat} {h : re_H} {Q : Nat → Value → re_H → Prop} {v4 : Value} (r4 : re_R v4) {v5 : Value} (r5 : re_R v5) {a6 : Nat}
    {w : List Value} (e : re_hg h a6 = some (10, w)) (hk : 3 < w.length) (K : wp SC 388 d s 82 [(5, v5), (6, .ref a6)] [] (re_hw h a6 (10, w.set 3 (v4))) Q) : wp SC 388 d s 75 [(4, v4), (5, v5), (6, .ref a6)] [] h Q := by
  refine wp_run 1 (pc' := 77) (lv' := [(4, v4), (5, v5), (6, .ref a6)]) (st' := [.ref a6]) rfl ?_
  refine wp_alR (ins := .aload 4) (k := 4) (pc' := 79) ⟨rfl, rfl⟩ (Or.inl ⟨_, rfl, rfl, rfl⟩) rfl r4 ?_
  exact wp_pf ⟨rfl, rfl⟩ rfl (Or.inl rfl) e hk (fit_o r4) (wp_weak (re_sb_at rfl (re_sb_at rfl (re_sb_nil _))) K)
theorem B388_82 {SC : List Value} {d s : Nat} {h : re_H} {Q : Nat → Value → re_H → Prop} {v5 : Value} (r5 : re_R v5) {a6 : Nat}
    {w : List Value} (e : re_hg h a6 = some (10, w)) (hk : 4 < w.length) (K : wp SC 388 d s 89 [(6, .ref a6)] [] (re_hw h a6 (10, w.set 4 (v5))) Q) : wp SC 388 d s 82 [(5, v5), (6, .ref a6)] [] h Q := by
  refine wp_run 1 (pc' := 84) (lv' := [(5, v5), (6, .ref a6)]) (st' := [.ref a6]) rfl ?_
  refine wp_alR (ins := .aload 5) (k := 5) (pc' := 86) ⟨rfl, rfl⟩ (Or.inl ⟨_, rfl, rfl, rfl⟩) rfl r5 ?_
  exact wp_pf ⟨rfl, rfl⟩ rfl (Or.inl rfl) e hk (fit_o r5) (wp_weak (re_sb_at rfl (re_sb_nil _)) K)
theorem B388_89 {SC : List Value} {d s : Nat} {h : re_H} {Q : Nat → Value → re_H → Prop} {a6 : Nat}
    (K : Q 3 (.ref a6) h) : wp SC 388 d s 89 [(6, .ref a6)] [] h Q := by
  refine wp_run 1 (pc' := 91) (lv' := [(6, .ref a6)]) (st' := [.ref a6]) rfl ?_
  exact wp_reta ⟨rfl, rfl⟩ rfl (Or.inr ⟨_, rfl⟩) K
