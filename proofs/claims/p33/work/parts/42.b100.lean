set_option maxRecDepth 20000 in
theorem B640_0 {SC : List Value} {d s : Nat} {h : re_H} {Q : Nat → Value → re_H → Prop} {a0 : Nat} {x1 : Int32} {x2 : Int32} {l3 : Int64} {v5 : Value} (r5 : re_R v5) {v6 : Value} (r6 : re_R v6) {v7 : Value} (r7 : re_R v7)
    (K : wp SC 640 d s 4 [(0, .ref a0), (1, .int x1), (2, .int x2), (3, .long l3), (5, v5), (6, v6), (7, v7)] [] h Q) : wp SC 640 d s 0 [(0, .ref a0), (1, .int x1), (2, .int x2), (3, .long l3), (5, v5), (6, v6), (7, v7)] [] h Q := by
  refine wp_run 1 (pc' := 1) (lv' := [(0, .ref a0), (1, .int x1), (2, .int x2), (3, .long l3), (5, v5), (6, v6), (7, v7)]) (st' := [.ref a0]) rfl ?_
  refine wp_obj ⟨rfl, rfl⟩ rfl (by simp [re_cat, vc_i, vc_l, vc_r, vc_n, vc_a]) ?_
  exact wp_weak (re_sb_at rfl (re_sb_at rfl (re_sb_at rfl (re_sb_at rfl (re_sb_at rfl (re_sb_at rfl (re_sb_at rfl (re_sb_nil _)))))))) K
set_option maxRecDepth 20000 in
theorem B640_4 {SC : List Value} {d s : Nat} {h : re_H} {Q : Nat → Value → re_H → Prop} {a0 : Nat} {x1 : Int32} {x2 : Int32} {l3 : Int64} {v5 : Value} (r5 : re_R v5) {v6 : Value} (r6 : re_R v6) {v7 : Value} (r7 : re_R v7)
    {w : List Value} (e : re_hg h a0 = some (9, w)) (hk : 0 < w.length) (K : wp SC 640 d s 9 [(0, .ref a0), (1, .int x1), (2, .int x2), (3, .long l3), (5, v5), (6, v6), (7, v7)] [] (re_hw h a0 (9, w.set 0 (.int x1))) Q) : wp SC 640 d s 4 [(0, .ref a0), (1, .int x1), (2, .int x2), (3, .long l3), (5, v5), (6, v6), (7, v7)] [] h Q := by
  refine wp_run 2 (pc' := 6) (lv' := [(0, .ref a0), (1, .int x1), (2, .int x2), (3, .long l3), (5, v5), (6, v6), (7, v7)]) (st' := [.int x1, .ref a0]) rfl ?_
  exact wp_pf ⟨rfl, rfl⟩ rfl (Or.inr ⟨rfl, rfl⟩) e hk (fit_i _) (wp_weak (re_sb_at rfl (re_sb_at rfl (re_sb_at rfl (re_sb_at rfl (re_sb_at rfl (re_sb_at rfl (re_sb_at rfl (re_sb_nil _)))))))) K)
set_option maxRecDepth 20000 in
theorem B640_9 {SC : List Value} {d s : Nat} {h : re_H} {Q : Nat → Value → re_H → Prop} {a0 : Nat} {x1 : Int32} {x2 : Int32} {l3 : Int64} {v5 : Value} (r5 : re_R v5) {v6 : Value} (r6 : re_R v6) {v7 : Value} (r7 : re_R v7)
    {w : List Value} (e : re_hg h a0 = some (9, w)) (hk : 1 < w.length) (K : wp SC 640 d s 14 [(0, .ref a0), (1, .int x1), (2, .int x2), (3, .long l3), (5, v5), (6, v6), (7, v7)] [] (re_hw h a0 (9, w.set 1 (.int x2))) Q) : wp SC 640 d s 9 [(0, .ref a0), (1, .int x1), (2, .int x2), (3, .long l3), (5, v5), (6, v6), (7, v7)] [] h Q := by
  refine wp_run 2 (pc' := 11) (lv' := [(0, .ref a0), (1, .int x1), (2, .int x2), (3, .long l3), (5, v5), (6, v6), (7, v7)]) (st' := [.int x2, .ref a0]) rfl ?_
  exact wp_pf ⟨rfl, rfl⟩ rfl (Or.inr ⟨rfl, rfl⟩) e hk (fit_i _) (wp_weak (re_sb_at rfl (re_sb_at rfl (re_sb_at rfl (re_sb_at rfl (re_sb_at rfl (re_sb_at rfl (re_sb_at rfl (re_sb_nil _)))))))) K)
set_option maxRecDepth 20000 in
theorem B640_14 {SC : List Value} {d s : Nat} {h : re_H} {Q : Nat → Value → re_H → Prop} {a0 : Nat} {x1 : Int32} {x2 : Int32} {l3 : Int64} {v5 : Value} (r5 : re_R v5) {v6 : Value} (r6 : re_R v6) {v7 : Value} (r7 : re_R v7)
    {w : List Value} (e : re_hg h a0 = some (9, w)) (hk : 2 < w.length) (K : wp SC 640 d s 19 [(0, .ref a0), (1, .int x1), (2, .int x2), (5, v5), (6, v6), (7, v7)] [] (re_hw h a0 (9, w.set 2 (.long l3))) Q) : wp SC 640 d s 14 [(0, .ref a0), (1, .int x1), (2, .int x2), (3, .long l3), (5, v5), (6, v6), (7, v7)] [] h Q := by
  refine wp_run 2 (pc' := 16) (lv' := [(0, .ref a0), (1, .int x1), (2, .int x2), (3, .long l3), (5, v5), (6, v6), (7, v7)]) (st' := [.long l3, .ref a0]) rfl ?_
  exact wp_pf ⟨rfl, rfl⟩ rfl (Or.inr ⟨rfl, rfl⟩) e hk (fit_l _) (wp_weak (re_sb_at rfl (re_sb_at rfl (re_sb_at rfl (re_sb_at rfl (re_sb_at rfl (re_sb_at rfl (re_sb_nil _))))))) K)
set_option maxRecDepth 20000 in
theorem B640_19 {SC : List Value} {d s : Nat} {h : re_H} {Q : Nat → Value → re_H → Prop} {a0 : Nat} {x1 : Int32} {x2 : Int32} {v5 : Value} (r5 : re_R v5) {v6 : Value} (r6 : re_R v6) {v7 : Value} (r7 : re_R v7)
    {w : List Value} (e : re_hg h a0 = some (9, w)) (hk : 3 < w.length) (K : wp SC 640 d s 25 [(0, .ref a0), (1, .int x1), (2, .int x2), (5, v5), (6, v6), (7, v7)] [] (re_hw h a0 (9, w.set 3 (v5))) Q) : wp SC 640 d s 19 [(0, .ref a0), (1, .int x1), (2, .int x2), (5, v5), (6, v6), (7, v7)] [] h Q := by
  refine wp_run 1 (pc' := 20) (lv' := [(0, .ref a0), (1, .int x1), (2, .int x2), (5, v5), (6, v6), (7, v7)]) (st' := [.ref a0]) rfl ?_
  refine wp_alR (ins := .aload 5) (k := 5) (pc' := 22) ⟨rfl, rfl⟩ (Or.inl ⟨_, rfl, rfl, rfl⟩) rfl r5 ?_
  exact wp_pf ⟨rfl, rfl⟩ rfl (Or.inr ⟨rfl, rfl⟩) e hk (fit_o r5) (wp_weak (re_sb_at rfl (re_sb_at rfl (re_sb_at rfl (re_sb_at rfl (re_sb_at rfl (re_sb_at rfl (re_sb_nil _))))))) K)
set_option maxRecDepth 20000 in
theorem B640_25 {SC : List Value} {d s : Nat} {h : re_H} {Q : Nat → Value → re_H → Prop} {a0 : Nat} {x1 : Int32} {x2 : Int32} {v5 : Value} (r5 : re_R v5) {v6 : Value} (r6 : re_R v6) {v7 : Value} (r7 : re_R v7)
    {w : List Value} (e : re_hg h a0 = some (9, w)) (hk : 4 < w.length) (K : wp SC 640 d s 31 [(0, .ref a0), (1, .int x1), (2, .int x2), (5, v5), (6, v6), (7, v7)] [] (re_hw h a0 (9, w.set 4 (v6))) Q) : wp SC 640 d s 25 [(0, .ref a0), (1, .int x1), (2, .int x2), (5, v5), (6, v6), (7, v7)] [] h Q := by
  refine wp_run 1 (pc' := 26) (lv' := [(0, .ref a0), (1, .int x1), (2, .int x2), (5, v5), (6, v6), (7, v7)]) (st' := [.ref a0]) rfl ?_
  refine wp_alR (ins := .aload 6) (k := 6) (pc' := 28) ⟨rfl, rfl⟩ (Or.inl ⟨_, rfl, rfl, rfl⟩) rfl r6 ?_
  exact wp_pf ⟨rfl, rfl⟩ rfl (Or.inr ⟨rfl, rfl⟩) e hk (fit_o r6) (wp_weak (re_sb_at rfl (re_sb_at rfl (re_sb_at rfl (re_sb_at rfl (re_sb_at rfl (re_sb_at rfl (re_sb_nil _))))))) K)
set_option maxRecDepth 20000 in
theorem B640_31 {SC : List Value} {d s : Nat} {h : re_H} {Q : Nat → Value → re_H → Prop} {a0 : Nat} {x1 : Int32} {x2 : Int32} {v5 : Value} (r5 : re_R v5) {v6 : Value} (r6 : re_R v6) {v7 : Value} (r7 : re_R v7)
    {w : List Value} (e : re_hg h a0 = some (9, w)) (hk : 5 < w.length) (K : wp SC 640 d s 37 [(0, .ref a0), (1, .int x1), (2, .int x2), (5, v5), (6, v6), (7, v7)] [] (re_hw h a0 (9, w.set 5 (v7))) Q) : wp SC 640 d s 31 [(0, .ref a0), (1, .int x1), (2, .int x2), (5, v5), (6, v6), (7, v7)] [] h Q := by
  refine wp_run 1 (pc' := 32) (lv' := [(0, .ref a0), (1, .int x1), (2, .int x2), (5, v5), (6, v6), (7, v7)]) (st' := [.ref a0]) rfl ?_
  refine wp_alR (ins := .aload 7) (k := 7) (pc' := 34) ⟨rfl, rfl⟩ (Or.inl ⟨_, rfl, rfl, rfl⟩) rfl r7 ?_
  exact wp_pf ⟨rfl, rfl⟩ rfl (Or.inr ⟨rfl, rfl⟩) e hk (fit_o r7) (wp_weak (re_sb_at rfl (re_sb_at rfl (re_sb_at rfl (re_sb_at rfl (re_sb_at rfl (re_sb_at rfl (re_sb_nil _))))))) K)
set_option maxRecDepth 20000 in
theorem B640_37 {SC : List Value} {d s : Nat} {h : re_H} {Q : Nat → Value → re_H → Prop} {a0 : Nat} {x1 : Int32} {x2 : Int32} {v5 : Value} (r5 : re_R v5) {v6 : Value} (r6 : re_R v6) {v7 : Value} (r7 : re_R v7)
    (K1 : x1 = (i32 6) → wp SC 640 d s 49 [(0, .ref a0), (1, .int x1), (2, .int x2), (5, v5), (6, v6), (7, v7)] [] h Q) (K2 : ¬ x1 = (i32 6) → wp SC 640 d s 43 [(0, .ref a0), (1, .int x1), (2, .int x2), (5, v5), (6, v6), (7, v7)] [] h Q) : wp SC 640 d s 37 [(0, .ref a0), (1, .int x1), (2, .int x2), (5, v5), (6, v6), (7, v7)] [] h Q := by
  refine wp_run 1 (pc' := 38) (lv' := [(0, .ref a0), (1, .int x1), (2, .int x2), (5, v5), (6, v6), (7, v7)]) (st' := [.int x1]) rfl ?_
  refine wp_bi (x := (i32 6)) ⟨rfl, rfl⟩ (by decide) ?_
  exact wp_cmp ⟨rfl, rfl⟩ rfl (fun hc => wp_weak (re_sb_at rfl (re_sb_at rfl (re_sb_at rfl (re_sb_at rfl (re_sb_at rfl (re_sb_at rfl (re_sb_nil _))))))) (K1 (ic1_eq hc))) (fun hc => wp_weak (re_sb_at rfl (re_sb_at rfl (re_sb_at rfl (re_sb_at rfl (re_sb_at rfl (re_sb_at rfl (re_sb_nil _))))))) (K2 (ic0_eq hc)))
set_option maxRecDepth 20000 in
theorem B640_43 {SC : List Value} {d s : Nat} {h : re_H} {Q : Nat → Value → re_H → Prop} {a0 : Nat} {x1 : Int32} {x2 : Int32} {v5 : Value} (r5 : re_R v5) {v6 : Value} (r6 : re_R v6) {v7 : Value} (r7 : re_R v7)
    (K1 : ¬ x1 = (i32 7) → wp SC 640 d s 53 [(0, .ref a0), (1, .int x1), (2, .int x2), (5, v5), (6, v6), (7, v7)] [] h Q) (K2 : x1 = (i32 7) → wp SC 640 d s 49 [(0, .ref a0), (1, .int x1), (2, .int x2), (5, v5), (6, v6), (7, v7)] [] h Q) : wp SC 640 d s 43 [(0, .ref a0), (1, .int x1), (2, .int x2), (5, v5), (6, v6), (7, v7)] [] h Q := by
  refine wp_run 1 (pc' := 44) (lv' := [(0, .ref a0), (1, .int x1), (2, .int x2), (5, v5), (6, v6), (7, v7)]) (st' := [.int x1]) rfl ?_
  refine wp_bi (x := (i32 7)) ⟨rfl, rfl⟩ (by decide) ?_
  exact wp_cmp ⟨rfl, rfl⟩ rfl (fun hc => wp_weak (re_sb_at rfl (re_sb_at rfl (re_sb_at rfl (re_sb_at rfl (re_sb_at rfl (re_sb_at rfl (re_sb_nil _))))))) (K1 (ic1_ne hc))) (fun hc => wp_weak (re_sb_at rfl (re_sb_at rfl (re_sb_at rfl (re_sb_at rfl (re_sb_at rfl (re_sb_at rfl (re_sb_nil _))))))) (K2 (ic0_ne hc)))
set_option maxRecDepth 20000 in
theorem B640_49 {SC : List Value} {d s : Nat} {h : re_H} {Q : Nat → Value → re_H → Prop} {a0 : Nat} {x1 : Int32} {x2 : Int32} {v5 : Value} (r5 : re_R v5) {v6 : Value} (r6 : re_R v6) {v7 : Value} (r7 : re_R v7)
    (K : wp SC 640 d s 54 [(0, .ref a0), (1, .int x1), (2, .int x2), (5, v5), (6, v6), (7, v7)] [.int (i32 1)] h Q) : wp SC 640 d s 49 [(0, .ref a0), (1, .int x1), (2, .int x2), (5, v5), (6, v6), (7, v7)] [] h Q := by
  refine wp_run 2 (pc' := 54) (lv' := [(0, .ref a0), (1, .int x1), (2, .int x2), (5, v5), (6, v6), (7, v7)]) (st' := [.int (i32 1)]) rfl ?_
  exact wp_weak (re_sb_at rfl (re_sb_at rfl (re_sb_at rfl (re_sb_at rfl (re_sb_at rfl (re_sb_at rfl (re_sb_nil _))))))) K
set_option maxRecDepth 20000 in
theorem B640_53 {SC : List Value} {d s : Nat} {h : re_H} {Q : Nat → Value → re_H → Prop} {a0 : Nat} {x1 : Int32} {x2 : Int32} {v5 : Value} (r5 : re_R v5) {v6 : Value} (r6 : re_R v6) {v7 : Value} (r7 : re_R v7)
    (K : wp SC 640 d s 54 [(0, .ref a0), (1, .int x1), (2, .int x2), (5, v5), (6, v6), (7, v7)] [.int (i32 0)] h Q) : wp SC 640 d s 53 [(0, .ref a0), (1, .int x1), (2, .int x2), (5, v5), (6, v6), (7, v7)] [] h Q := by
  refine wp_run 1 (pc' := 54) (lv' := [(0, .ref a0), (1, .int x1), (2, .int x2), (5, v5), (6, v6), (7, v7)]) (st' := [.int (i32 0)]) rfl ?_
  exact wp_weak (re_sb_at rfl (re_sb_at rfl (re_sb_at rfl (re_sb_at rfl (re_sb_at rfl (re_sb_at rfl (re_sb_nil _))))))) K
set_option maxRecDepth 20000 in
theorem B640_54 {SC : List Value} {d s : Nat} {h : re_H} {Q : Nat → Value → re_H → Prop} {a0 : Nat} {x1 : Int32} {x2 : Int32} {v5 : Value} (r5 : re_R v5) {v6 : Value} (r6 : re_R v6) {v7 : Value} (r7 : re_R v7) {xs0 : Int32}
    (K1 : x1 = (i32 1) → wp SC 640 d s 66 [(0, .ref a0), (1, .int x1), (2, .int x2), (5, v5), (6, v6), (7, v7), (8, .int xs0)] [] h Q) (K2 : ¬ x1 = (i32 1) → wp SC 640 d s 61 [(0, .ref a0), (1, .int x1), (2, .int x2), (5, v5), (6, v6), (7, v7), (8, .int xs0)] [] h Q) : wp SC 640 d s 54 [(0, .ref a0), (1, .int x1), (2, .int x2), (5, v5), (6, v6), (7, v7)] [.int xs0] h Q := by
  refine wp_stI (ins := .istore 8) (k := 8) (pc' := 56) (lv' := [(8, .int xs0), (0, .ref a0), (1, .int x1), (2, .int x2), (5, v5), (6, v6), (7, v7)]) ⟨rfl, rfl⟩ (Or.inl ⟨_, rfl, rfl, rfl⟩) (by decide) (by simp [re_s1, re_s2, re_c2, re_lk, vc_i, vc_l, vc_r, vc_n, vc_a, re_R_cat r7]) ?_
  refine wp_run 2 (pc' := 58) (lv' := [(8, .int xs0), (0, .ref a0), (1, .int x1), (2, .int x2), (5, v5), (6, v6), (7, v7)]) (st' := [.int (i32 1), .int x1]) rfl ?_
  exact wp_cmp ⟨rfl, rfl⟩ rfl (fun hc => wp_weak (re_sb_at rfl (re_sb_at rfl (re_sb_at rfl (re_sb_at rfl (re_sb_at rfl (re_sb_at rfl (re_sb_at rfl (re_sb_nil _)))))))) (K1 (ic1_eq hc))) (fun hc => wp_weak (re_sb_at rfl (re_sb_at rfl (re_sb_at rfl (re_sb_at rfl (re_sb_at rfl (re_sb_at rfl (re_sb_at rfl (re_sb_nil _)))))))) (K2 (ic0_eq hc)))
set_option maxRecDepth 20000 in
theorem B640_61 {SC : List Value} {d s : Nat} {h : re_H} {Q : Nat → Value → re_H → Prop} {a0 : Nat} {x1 : Int32} {x2 : Int32} {v5 : Value} (r5 : re_R v5) {v6 : Value} (r6 : re_R v6) {v7 : Value} (r7 : re_R v7) {x8 : Int32}
    (K1 : x8 = 0 → wp SC 640 d s 72 [(0, .ref a0), (1, .int x1), (2, .int x2), (5, v5), (6, v6), (7, v7), (8, .int x8)] [] h Q) (K2 : ¬ x8 = 0 → wp SC 640 d s 66 [(0, .ref a0), (1, .int x1), (2, .int x2), (5, v5), (6, v6), (7, v7), (8, .int x8)] [] h Q) : wp SC 640 d s 61 [(0, .ref a0), (1, .int x1), (2, .int x2), (5, v5), (6, v6), (7, v7), (8, .int x8)] [] h Q := by
  refine wp_run 1 (pc' := 63) (lv' := [(0, .ref a0), (1, .int x1), (2, .int x2), (5, v5), (6, v6), (7, v7), (8, .int x8)]) (st' := [.int x8]) rfl ?_
  exact wp_if ⟨rfl, rfl⟩ rfl (fun hc => wp_weak (re_sb_at rfl (re_sb_at rfl (re_sb_at rfl (re_sb_at rfl (re_sb_at rfl (re_sb_at rfl (re_sb_at rfl (re_sb_nil _)))))))) (K1 (ic1_eq hc))) (fun hc => wp_weak (re_sb_at rfl (re_sb_at rfl (re_sb_at rfl (re_sb_at rfl (re_sb_at rfl (re_sb_at rfl (re_sb_at rfl (re_sb_nil _)))))))) (K2 (ic0_eq hc)))
set_option maxRecDepth 20000 in
theorem B640_66 {SC : List Value} {d s : Nat} {h : re_H} {Q : Nat → Value → re_H → Prop} {a0 : Nat} {x1 : Int32} {x2 : Int32} {v5 : Value} (r5 : re_R v5) {v6 : Value} (r6 : re_R v6) {v7 : Value} (r7 : re_R v7) {x8 : Int32}
    (K : wp SC 640 d s 73 [(0, .ref a0), (1, .int x1), (2, .int x2), (5, v5), (6, v6), (7, v7), (8, .int x8)] [.int ((i32 1) <<< (x2 &&& 31))] h Q) : wp SC 640 d s 66 [(0, .ref a0), (1, .int x1), (2, .int x2), (5, v5), (6, v6), (7, v7), (8, .int x8)] [] h Q := by
  refine wp_run 4 (pc' := 73) (lv' := [(0, .ref a0), (1, .int x1), (2, .int x2), (5, v5), (6, v6), (7, v7), (8, .int x8)]) (st' := [.int ((i32 1) <<< (x2 &&& 31))]) rfl ?_
  exact wp_weak (re_sb_at rfl (re_sb_at rfl (re_sb_at rfl (re_sb_at rfl (re_sb_at rfl (re_sb_at rfl (re_sb_at rfl (re_sb_nil _)))))))) K
set_option maxRecDepth 20000 in
theorem B640_72 {SC : List Value} {d s : Nat} {h : re_H} {Q : Nat → Value → re_H → Prop} {a0 : Nat} {x1 : Int32} {x2 : Int32} {v5 : Value} (r5 : re_R v5) {v6 : Value} (r6 : re_R v6) {v7 : Value} (r7 : re_R v7) {x8 : Int32}
    (K : wp SC 640 d s 73 [(0, .ref a0), (1, .int x1), (2, .int x2), (5, v5), (6, v6), (7, v7), (8, .int x8)] [.int (i32 0)] h Q) : wp SC 640 d s 72 [(0, .ref a0), (1, .int x1), (2, .int x2), (5, v5), (6, v6), (7, v7), (8, .int x8)] [] h Q := by
  refine wp_run 1 (pc' := 73) (lv' := [(0, .ref a0), (1, .int x1), (2, .int x2), (5, v5), (6, v6), (7, v7), (8, .int x8)]) (st' := [.int (i32 0)]) rfl ?_
  exact wp_weak (re_sb_at rfl (re_sb_at rfl (re_sb_at rfl (re_sb_at rfl (re_sb_at rfl (re_sb_at rfl (re_sb_at rfl (re_sb_nil _)))))))) K
set_option maxRecDepth 20000 in
theorem B640_73 {SC : List Value} {d s : Nat} {h : re_H} {Q : Nat → Value → re_H → Prop} {a0 : Nat} {x1 : Int32} {x2 : Int32} {v5 : Value} (r5 : re_R v5) {v6 : Value} (r6 : re_R v6) {v7 : Value} (r7 : re_R v7) {x8 : Int32} {xs0 : Int32}
    (K1 : x8 = 0 → wp SC 640 d s 85 [(0, .ref a0), (1, .int x1), (2, .int x2), (5, v5), (6, v6), (7, v7), (9, .int xs0)] [] h Q) (K2 : ¬ x8 = 0 → wp SC 640 d s 80 [(0, .ref a0), (1, .int x1), (2, .int x2), (5, v5), (6, v6), (7, v7), (9, .int xs0)] [] h Q) : wp SC 640 d s 73 [(0, .ref a0), (1, .int x1), (2, .int x2), (5, v5), (6, v6), (7, v7), (8, .int x8)] [.int xs0] h Q := by
  refine wp_run 2 (pc' := 77) (lv' := [(9, .int xs0), (0, .ref a0), (1, .int x1), (2, .int x2), (5, v5), (6, v6), (7, v7), (8, .int x8)]) (st' := [.int x8]) rfl ?_
  exact wp_if ⟨rfl, rfl⟩ rfl (fun hc => wp_weak (re_sb_at rfl (re_sb_at rfl (re_sb_at rfl (re_sb_at rfl (re_sb_at rfl (re_sb_at rfl (re_sb_at rfl (re_sb_nil _)))))))) (K1 (ic1_eq hc))) (fun hc => wp_weak (re_sb_at rfl (re_sb_at rfl (re_sb_at rfl (re_sb_at rfl (re_sb_at rfl (re_sb_at rfl (re_sb_at rfl (re_sb_nil _)))))))) (K2 (ic0_eq hc)))
set_option maxRecDepth 20000 in
theorem B640_80 {SC : List Value} {d s : Nat} {h : re_H} {Q : Nat → Value → re_H → Prop} {a0 : Nat} {x1 : Int32} {x2 : Int32} {v5 : Value} (r5 : re_R v5) {v6 : Value} (r6 : re_R v6) {v7 : Value} (r7 : re_R v7) {x9 : Int32}
    (K : wp SC 640 d s 86 [(0, .ref a0), (1, .int x1), (2, .int x2), (5, v5), (6, v6), (7, v7), (9, .int x9)] [.int x9] h Q) : wp SC 640 d s 80 [(0, .ref a0), (1, .int x1), (2, .int x2), (5, v5), (6, v6), (7, v7), (9, .int x9)] [] h Q := by
  refine wp_run 2 (pc' := 86) (lv' := [(0, .ref a0), (1, .int x1), (2, .int x2), (5, v5), (6, v6), (7, v7), (9, .int x9)]) (st' := [.int x9]) rfl ?_
  exact wp_weak (re_sb_at rfl (re_sb_at rfl (re_sb_at rfl (re_sb_at rfl (re_sb_at rfl (re_sb_at rfl (re_sb_at rfl (re_sb_nil _)))))))) K
set_option maxRecDepth 20000 in
theorem B640_85 {SC : List Value} {d s : Nat} {h : re_H} {Q : Nat → Value → re_H → Prop} {a0 : Nat} {x1 : Int32} {x2 : Int32} {v5 : Value} (r5 : re_R v5) {v6 : Value} (r6 : re_R v6) {v7 : Value} (r7 : re_R v7) {x9 : Int32}
    (K : wp SC 640 d s 86 [(0, .ref a0), (1, .int x1), (2, .int x2), (5, v5), (6, v6), (7, v7), (9, .int x9)] [.int (i32 0)] h Q) : wp SC 640 d s 85 [(0, .ref a0), (1, .int x1), (2, .int x2), (5, v5), (6, v6), (7, v7), (9, .int x9)] [] h Q := by
  refine wp_run 1 (pc' := 86) (lv' := [(0, .ref a0), (1, .int x1), (2, .int x2), (5, v5), (6, v6), (7, v7), (9, .int x9)]) (st' := [.int (i32 0)]) rfl ?_
  exact wp_weak (re_sb_at rfl (re_sb_at rfl (re_sb_at rfl (re_sb_at rfl (re_sb_at rfl (re_sb_at rfl (re_sb_at rfl (re_sb_nil _)))))))) K
set_option maxRecDepth 20000 in
theorem B640_86 {SC : List Value} {d s : Nat} {h : re_H} {Q : Nat → Value → re_H → Prop} {a0 : Nat} {x1 : Int32} {x2 : Int32} {v5 : Value} (r5 : re_R v5) {v6 : Value} (r6 : re_R v6) {v7 : Value} (r7 : re_R v7) {x9 : Int32} {xs0 : Int32}
    (K1 : v5 = .null → wp SC 640 d s 95 [(0, .ref a0), (1, .int x1), (2, .int x2), (5, .null), (6, v6), (7, v7), (9, .int x9), (10, .int xs0)] [.int (i32 1), .ref a0] h Q) (K2 : ∀ b1, v5 = .ref b1 → wp SC 640 d s 99 [(0, .ref a0), (1, .int x1), (2, .int x2), (5, .ref b1), (6, v6), (7, v7), (9, .int x9), (10, .int xs0)] [.int (i32 1), .ref a0] h Q) : wp SC 640 d s 86 [(0, .ref a0), (1, .int x1), (2, .int x2), (5, v5), (6, v6), (7, v7), (9, .int x9)] [.int xs0] h Q := by
  refine wp_run 3 (pc' := 90) (lv' := [(10, .int xs0), (0, .ref a0), (1, .int x1), (2, .int x2), (5, v5), (6, v6), (7, v7), (9, .int x9)]) (st' := [.int (i32 1), .ref a0]) rfl ?_
  refine wp_alR (ins := .aload 5) (k := 5) (pc' := 92) ⟨rfl, rfl⟩ (Or.inl ⟨_, rfl, rfl, rfl⟩) rfl r5 ?_
  exact wp_ifnn ⟨rfl, rfl⟩ rfl r5 (fun bb hc => by subst hc; exact wp_weak (re_sb_at rfl (re_sb_at rfl (re_sb_at rfl (re_sb_at rfl (re_sb_at rfl (re_sb_at rfl (re_sb_at rfl (re_sb_at rfl (re_sb_nil _))))))))) (K2 bb rfl)) (fun hc => by subst hc; exact wp_weak (re_sb_at rfl (re_sb_at rfl (re_sb_at rfl (re_sb_at rfl (re_sb_at rfl (re_sb_at rfl (re_sb_at rfl (re_sb_at rfl (re_sb_nil _))))))))) (K1 rfl))
set_option maxRecDepth 20000 in
theorem B640_95 {SC : List Value} {d s : Nat} {h : re_H} {Q : Nat → Value → re_H → Prop} {a0 : Nat} {x1 : Int32} {x2 : Int32} {v5 : Value} (r5 : re_R v5) {v6 : Value} (r6 : re_R v6) {v7 : Value} (r7 : re_R v7) {x9 : Int32} {x10 : Int32} {xs0 : Int32} {as1 : Nat}
    (K : wp SC 640 d s 104 [(0, .ref a0), (1, .int x1), (2, .int x2), (5, v5), (6, v6), (7, v7), (9, .int x9), (10, .int x10)] [.int (i32 0), .int xs0, .ref as1] h Q) : wp SC 640 d s 95 [(0, .ref a0), (1, .int x1), (2, .int x2), (5, v5), (6, v6), (7, v7), (9, .int x9), (10, .int x10)] [.int xs0, .ref as1] h Q := by
  refine wp_run 2 (pc' := 104) (lv' := [(0, .ref a0), (1, .int x1), (2, .int x2), (5, v5), (6, v6), (7, v7), (9, .int x9), (10, .int x10)]) (st' := [.int (i32 0), .int xs0, .ref as1]) rfl ?_
  exact wp_weak (re_sb_at rfl (re_sb_at rfl (re_sb_at rfl (re_sb_at rfl (re_sb_at rfl (re_sb_at rfl (re_sb_at rfl (re_sb_at rfl (re_sb_nil _))))))))) K
set_option maxRecDepth 20000 in
theorem B640_99 {SC : List Value} {d s : Nat} {h : re_H} {Q : Nat → Value → re_H → Prop} {a0 : Nat} {x1 : Int32} {x2 : Int32} {a5 : Nat} {v6 : Value} (r6 : re_R v6) {v7 : Value} (r7 : re_R v7) {x9 : Int32} {x10 : Int32} {xs0 : Int32} {as1 : Nat}
    {xe1 : Int32} (e2 : nb_fd h a5 9 6 (.int xe1)) (K : wp SC 640 d s 104 [(0, .ref a0), (1, .int x1), (2, .int x2), (5, .ref a5), (6, v6), (7, v7), (9, .int x9), (10, .int x10)] [.int xe1, .int xs0, .ref as1] h Q) : wp SC 640 d s 99 [(0, .ref a0), (1, .int x1), (2, .int x2), (5, .ref a5), (6, v6), (7, v7), (9, .int x9), (10, .int x10)] [.int xs0, .ref as1] h Q := by
  refine wp_run 1 (pc' := 101) (lv' := [(0, .ref a0), (1, .int x1), (2, .int x2), (5, .ref a5), (6, v6), (7, v7), (9, .int x9), (10, .int x10)]) (st' := [.ref a5, .int xs0, .ref as1]) rfl ?_
  obtain ⟨w2, e2a, e2b⟩ := e2
  refine wp_gf ⟨rfl, rfl⟩ rfl e2a e2b ?_
  exact wp_weak (re_sb_at rfl (re_sb_at rfl (re_sb_at rfl (re_sb_at rfl (re_sb_at rfl (re_sb_at rfl (re_sb_at rfl (re_sb_at rfl (re_sb_nil _))))))))) K
set_option maxRecDepth 20000 in
theorem B640_104 {SC : List Value} {d s : Nat} {h : re_H} {Q : Nat → Value → re_H → Prop} {a0 : Nat} {x1 : Int32} {x2 : Int32} {v5 : Value} (r5 : re_R v5) {v6 : Value} (r6 : re_R v6) {v7 : Value} (r7 : re_R v7) {x9 : Int32} {x10 : Int32} {xs0 : Int32} {xs1 : Int32} {as2 : Nat}
    (K1 : v6 = .null → wp SC 640 d s 110 [(0, .ref a0), (1, .int x1), (2, .int x2), (5, v5), (6, .null), (7, v7), (9, .int x9), (10, .int x10)] [.int (xs1 + xs0), .ref as2] h Q) (K2 : ∀ b1, v6 = .ref b1 → wp SC 640 d s 114 [(0, .ref a0), (1, .int x1), (2, .int x2), (5, v5), (6, .ref b1), (7, v7), (9, .int x9), (10, .int x10)] [.int (xs1 + xs0), .ref as2] h Q) : wp SC 640 d s 104 [(0, .ref a0), (1, .int x1), (2, .int x2), (5, v5), (6, v6), (7, v7), (9, .int x9), (10, .int x10)] [.int xs0, .int xs1, .ref as2] h Q := by
  refine wp_run 1 (pc' := 105) (lv' := [(0, .ref a0), (1, .int x1), (2, .int x2), (5, v5), (6, v6), (7, v7), (9, .int x9), (10, .int x10)]) (st' := [.int (xs1 + xs0), .ref as2]) rfl ?_
  refine wp_alR (ins := .aload 6) (k := 6) (pc' := 107) ⟨rfl, rfl⟩ (Or.inl ⟨_, rfl, rfl, rfl⟩) rfl r6 ?_
  exact wp_ifnn ⟨rfl, rfl⟩ rfl r6 (fun bb hc => by subst hc; exact wp_weak (re_sb_at rfl (re_sb_at rfl (re_sb_at rfl (re_sb_at rfl (re_sb_at rfl (re_sb_at rfl (re_sb_at rfl (re_sb_at rfl (re_sb_nil _))))))))) (K2 bb rfl)) (fun hc => by subst hc; exact wp_weak (re_sb_at rfl (re_sb_at rfl (re_sb_at rfl (re_sb_at rfl (re_sb_at rfl (re_sb_at rfl (re_sb_at rfl (re_sb_at rfl (re_sb_nil _))))))))) (K1 rfl))
set_option maxRecDepth 20000 in
theorem B640_110 {SC : List Value} {d s : Nat} {h : re_H} {Q : Nat → Value → re_H → Prop} {a0 : Nat} {x1 : Int32} {x2 : Int32} {v5 : Value} (r5 : re_R v5) {v6 : Value} (r6 : re_R v6) {v7 : Value} (r7 : re_R v7) {x9 : Int32} {x10 : Int32} {xs0 : Int32} {as1 : Nat}
    (K : wp SC 640 d s 119 [(0, .ref a0), (1, .int x1), (2, .int x2), (5, v5), (6, v6), (7, v7), (9, .int x9), (10, .int x10)] [.int (i32 0), .int xs0, .ref as1] h Q) : wp SC 640 d s 110 [(0, .ref a0), (1, .int x1), (2, .int x2), (5, v5), (6, v6), (7, v7), (9, .int x9), (10, .int x10)] [.int xs0, .ref as1] h Q := by
  refine wp_run 2 (pc' := 119) (lv' := [(0, .ref a0), (1, .int x1), (2, .int x2), (5, v5), (6, v6), (7, v7), (9, .int x9), (10, .int x10)]) (st' := [.int (i32 0), .int xs0, .ref as1]) rfl ?_
  exact wp_weak (re_sb_at rfl (re_sb_at rfl (re_sb_at rfl (re_sb_at rfl (re_sb_at rfl (re_sb_at rfl (re_sb_at rfl (re_sb_at rfl (re_sb_nil _))))))))) K
set_option maxRecDepth 20000 in
theorem B640_114 {SC : List Value} {d s : Nat} {h : re_H} {Q : Nat → Value → re_H → Prop} {a0 : Nat} {x1 : Int32} {x2 : Int32} {v5 : Value} (r5 : re_R v5) {a6 : Nat} {v7 : Value} (r7 : re_R v7) {x9 : Int32} {x10 : Int32} {xs0 : Int32} {as1 : Nat}
    {xe1 : Int32} (e2 : nb_fd h a6 9 6 (.int xe1)) (K : wp SC 640 d s 119 [(0, .ref a0), (1, .int x1), (2, .int x2), (5, v5), (6, .ref a6), (7, v7), (9, .int x9), (10, .int x10)] [.int xe1, .int xs0, .ref as1] h Q) : wp SC 640 d s 114 [(0, .ref a0), (1, .int x1), (2, .int x2), (5, v5), (6, .ref a6), (7, v7), (9, .int x9), (10, .int x10)] [.int xs0, .ref as1] h Q := by
  refine wp_run 1 (pc' := 116) (lv' := [(0, .ref a0), (1, .int x1), (2, .int x2), (5, v5), (6, .ref a6), (7, v7), (9, .int x9), (10, .int x10)]) (st' := [.ref a6, .int xs0, .ref as1]) rfl ?_
  obtain ⟨w2, e2a, e2b⟩ := e2
  refine wp_gf ⟨rfl, rfl⟩ rfl e2a e2b ?_
  exact wp_weak (re_sb_at rfl (re_sb_at rfl (re_sb_at rfl (re_sb_at rfl (re_sb_at rfl (re_sb_at rfl (re_sb_at rfl (re_sb_at rfl (re_sb_nil _))))))))) K
set_option maxRecDepth 20000 in
theorem B640_119 {SC : List Value} {d s : Nat} {h : re_H} {Q : Nat → Value → re_H → Prop} {a0 : Nat} {x1 : Int32} {x2 : Int32} {v5 : Value} (r5 : re_R v5) {v6 : Value} (r6 : re_R v6) {v7 : Value} (r7 : re_R v7) {x9 : Int32} {x10 : Int32} {xs0 : Int32} {xs1 : Int32} {as2 : Nat}
    (K1 : v7 = .null → wp SC 640 d s 125 [(0, .ref a0), (1, .int x1), (2, .int x2), (5, v5), (6, v6), (7, .null), (9, .int x9), (10, .int x10)] [.int (xs1 + xs0), .ref as2] h Q) (K2 : ∀ b1, v7 = .ref b1 → wp SC 640 d s 129 [(0, .ref a0), (1, .int x1), (2, .int x2), (5, v5), (6, v6), (7, .ref b1), (9, .int x9), (10, .int x10)] [.int (xs1 + xs0), .ref as2] h Q) : wp SC 640 d s 119 [(0, .ref a0), (1, .int x1), (2, .int x2), (5, v5), (6, v6), (7, v7), (9, .int x9), (10, .int x10)] [.int xs0, .int xs1, .ref as2] h Q := by
  refine wp_run 1 (pc' := 120) (lv' := [(0, .ref a0), (1, .int x1), (2, .int x2), (5, v5), (6, v6), (7, v7), (9, .int x9), (10, .int x10)]) (st' := [.int (xs1 + xs0), .ref as2]) rfl ?_
  refine wp_alR (ins := .aload 7) (k := 7) (pc' := 122) ⟨rfl, rfl⟩ (Or.inl ⟨_, rfl, rfl, rfl⟩) rfl r7 ?_
  exact wp_ifnn ⟨rfl, rfl⟩ rfl r7 (fun bb hc => by subst hc; exact wp_weak (re_sb_at rfl (re_sb_at rfl (re_sb_at rfl (re_sb_at rfl (re_sb_at rfl (re_sb_at rfl (re_sb_at rfl (re_sb_at rfl (re_sb_nil _))))))))) (K2 bb rfl)) (fun hc => by subst hc; exact wp_weak (re_sb_at rfl (re_sb_at rfl (re_sb_at rfl (re_sb_at rfl (re_sb_at rfl (re_sb_at rfl (re_sb_at rfl (re_sb_at rfl (re_sb_nil _))))))))) (K1 rfl))
set_option maxRecDepth 20000 in
theorem B640_125 {SC : List Value} {d s : Nat} {h : re_H} {Q : Nat → Value → re_H → Prop} {a0 : Nat} {x1 : Int32} {x2 : Int32} {v5 : Value} (r5 : re_R v5) {v6 : Value} (r6 : re_R v6) {v7 : Value} (r7 : re_R v7) {x9 : Int32} {x10 : Int32} {xs0 : Int32} {as1 : Nat}
    (K : wp SC 640 d s 134 [(0, .ref a0), (1, .int x1), (2, .int x2), (5, v5), (6, v6), (7, v7), (9, .int x9), (10, .int x10)] [.int (i32 0), .int xs0, .ref as1] h Q) : wp SC 640 d s 125 [(0, .ref a0), (1, .int x1), (2, .int x2), (5, v5), (6, v6), (7, v7), (9, .int x9), (10, .int x10)] [.int xs0, .ref as1] h Q := by
  refine wp_run 2 (pc' := 134) (lv' := [(0, .ref a0), (1, .int x1), (2, .int x2), (5, v5), (6, v6), (7, v7), (9, .int x9), (10, .int x10)]) (st' := [.int (i32 0), .int xs0, .ref as1]) rfl ?_
  exact wp_weak (re_sb_at rfl (re_sb_at rfl (re_sb_at rfl (re_sb_at rfl (re_sb_at rfl (re_sb_at rfl (re_sb_at rfl (re_sb_at rfl (re_sb_nil _))))))))) K
set_option maxRecDepth 20000 in
theorem B640_129 {SC : List Value} {d s : Nat} {h : re_H} {Q : Nat → Value → re_H → Prop} {a0 : Nat} {x1 : Int32} {x2 : Int32} {v5 : Value} (r5 : re_R v5) {v6 : Value} (r6 : re_R v6) {a7 : Nat} {x9 : Int32} {x10 : Int32} {xs0 : Int32} {as1 : Nat}
    {xe1 : Int32} (e2 : nb_fd h a7 9 6 (.int xe1)) (K : wp SC 640 d s 134 [(0, .ref a0), (1, .int x1), (2, .int x2), (5, v5), (6, v6), (7, .ref a7), (9, .int x9), (10, .int x10)] [.int xe1, .int xs0, .ref as1] h Q) : wp SC 640 d s 129 [(0, .ref a0), (1, .int x1), (2, .int x2), (5, v5), (6, v6), (7, .ref a7), (9, .int x9), (10, .int x10)] [.int xs0, .ref as1] h Q := by
  refine wp_run 1 (pc' := 131) (lv' := [(0, .ref a0), (1, .int x1), (2, .int x2), (5, v5), (6, v6), (7, .ref a7), (9, .int x9), (10, .int x10)]) (st' := [.ref a7, .int xs0, .ref as1]) rfl ?_
  obtain ⟨w2, e2a, e2b⟩ := e2
  refine wp_gf ⟨rfl, rfl⟩ rfl e2a e2b ?_
  exact wp_weak (re_sb_at rfl (re_sb_at rfl (re_sb_at rfl (re_sb_at rfl (re_sb_at rfl (re_sb_at rfl (re_sb_at rfl (re_sb_at rfl (re_sb_nil _))))))))) K
set_option maxRecDepth 20000 in
theorem B640_134 {SC : List Value} {d s : Nat} {h : re_H} {Q : Nat → Value → re_H → Prop} {a0 : Nat} {x1 : Int32} {x2 : Int32} {v5 : Value} (r5 : re_R v5) {v6 : Value} (r6 : re_R v6) {v7 : Value} (r7 : re_R v7) {x9 : Int32} {x10 : Int32} {xs0 : Int32} {xs1 : Int32} {as2 : Nat}
    {w : List Value} (e : re_hg h as2 = some (9, w)) (hk : 6 < w.length) (K : wp SC 640 d s 138 [(0, .ref a0), (1, .int x1), (2, .int x2), (5, v5), (6, v6), (7, v7), (9, .int x9), (10, .int x10)] [] (re_hw h as2 (9, w.set 6 (.int (xs1 + xs0)))) Q) : wp SC 640 d s 134 [(0, .ref a0), (1, .int x1), (2, .int x2), (5, v5), (6, v6), (7, v7), (9, .int x9), (10, .int x10)] [.int xs0, .int xs1, .ref as2] h Q := by
  refine wp_run 1 (pc' := 135) (lv' := [(0, .ref a0), (1, .int x1), (2, .int x2), (5, v5), (6, v6), (7, v7), (9, .int x9), (10, .int x10)]) (st' := [.int (xs1 + xs0), .ref as2]) rfl ?_
  exact wp_pf ⟨rfl, rfl⟩ rfl (Or.inr ⟨rfl, rfl⟩) e hk (fit_i _) (wp_weak (re_sb_at rfl (re_sb_at rfl (re_sb_at rfl (re_sb_at rfl (re_sb_at rfl (re_sb_at rfl (re_sb_at rfl (re_sb_at rfl (re_sb_nil _))))))))) K)
set_option maxRecDepth 20000 in
theorem B640_138 {SC : List Value} {d s : Nat} {h : re_H} {Q : Nat → Value → re_H → Prop} {a0 : Nat} {x1 : Int32} {x2 : Int32} {v5 : Value} (r5 : re_R v5) {v6 : Value} (r6 : re_R v6) {v7 : Value} (r7 : re_R v7) {x9 : Int32} {x10 : Int32}
    (K1 : ¬ x1 = (i32 1) → wp SC 640 d s 149 [(0, .ref a0), (1, .int x1), (2, .int x2), (5, v5), (6, v6), (7, v7), (9, .int x9), (10, .int x10)] [.ref a0] h Q) (K2 : x1 = (i32 1) → wp SC 640 d s 144 [(0, .ref a0), (1, .int x1), (2, .int x2), (5, v5), (6, v6), (7, v7), (9, .int x9), (10, .int x10)] [.ref a0] h Q) : wp SC 640 d s 138 [(0, .ref a0), (1, .int x1), (2, .int x2), (5, v5), (6, v6), (7, v7), (9, .int x9), (10, .int x10)] [] h Q := by
  refine wp_run 3 (pc' := 141) (lv' := [(0, .ref a0), (1, .int x1), (2, .int x2), (5, v5), (6, v6), (7, v7), (9, .int x9), (10, .int x10)]) (st' := [.int (i32 1), .int x1, .ref a0]) rfl ?_
  exact wp_cmp ⟨rfl, rfl⟩ rfl (fun hc => wp_weak (re_sb_at rfl (re_sb_at rfl (re_sb_at rfl (re_sb_at rfl (re_sb_at rfl (re_sb_at rfl (re_sb_at rfl (re_sb_at rfl (re_sb_nil _))))))))) (K1 (ic1_ne hc))) (fun hc => wp_weak (re_sb_at rfl (re_sb_at rfl (re_sb_at rfl (re_sb_at rfl (re_sb_at rfl (re_sb_at rfl (re_sb_at rfl (re_sb_at rfl (re_sb_nil _))))))))) (K2 (ic0_ne hc)))
set_option maxRecDepth 20000 in
theorem B640_144 {SC : List Value} {d s : Nat} {h : re_H} {Q : Nat → Value → re_H → Prop} {a0 : Nat} {x1 : Int32} {x2 : Int32} {v5 : Value} (r5 : re_R v5) {v6 : Value} (r6 : re_R v6) {v7 : Value} (r7 : re_R v7) {x9 : Int32} {x10 : Int32} {as0 : Nat}
    (K : wp SC 640 d s 150 [(0, .ref a0), (1, .int x1), (2, .int x2), (5, v5), (6, v6), (7, v7), (9, .int x9), (10, .int x10)] [.int x9, .ref as0] h Q) : wp SC 640 d s 144 [(0, .ref a0), (1, .int x1), (2, .int x2), (5, v5), (6, v6), (7, v7), (9, .int x9), (10, .int x10)] [.ref as0] h Q := by
  refine wp_run 2 (pc' := 150) (lv' := [(0, .ref a0), (1, .int x1), (2, .int x2), (5, v5), (6, v6), (7, v7), (9, .int x9), (10, .int x10)]) (st' := [.int x9, .ref as0]) rfl ?_
  exact wp_weak (re_sb_at rfl (re_sb_at rfl (re_sb_at rfl (re_sb_at rfl (re_sb_at rfl (re_sb_at rfl (re_sb_at rfl (re_sb_at rfl (re_sb_nil _))))))))) K
set_option maxRecDepth 20000 in
theorem B640_149 {SC : List Value} {d s : Nat} {h : re_H} {Q : Nat → Value → re_H → Prop} {a0 : Nat} {x1 : Int32} {x2 : Int32} {v5 : Value} (r5 : re_R v5) {v6 : Value} (r6 : re_R v6) {v7 : Value} (r7 : re_R v7) {x9 : Int32} {x10 : Int32} {as0 : Nat}
    (K : wp SC 640 d s 150 [(0, .ref a0), (1, .int x1), (2, .int x2), (5, v5), (6, v6), (7, v7), (9, .int x9), (10, .int x10)] [.int (i32 0), .ref as0] h Q) : wp SC 640 d s 149 [(0, .ref a0), (1, .int x1), (2, .int x2), (5, v5), (6, v6), (7, v7), (9, .int x9), (10, .int x10)] [.ref as0] h Q := by
  refine wp_run 1 (pc' := 150) (lv' := [(0, .ref a0), (1, .int x1), (2, .int x2), (5, v5), (6, v6), (7, v7), (9, .int x9), (10, .int x10)]) (st' := [.int (i32 0), .ref as0]) rfl ?_
  exact wp_weak (re_sb_at rfl (re_sb_at rfl (re_sb_at rfl (re_sb_at rfl (re_sb_at rfl (re_sb_at rfl (re_sb_at rfl (re_sb_at rfl (re_sb_nil _))))))))) K
set_option maxRecDepth 20000 in
theorem B640_150 {SC : List Value} {d s : Nat} {h : re_H} {Q : Nat → Value → re_H → Prop} {a0 : Nat} {x1 : Int32} {x2 : Int32} {v5 : Value} (r5 : re_R v5) {v6 : Value} (r6 : re_R v6) {v7 : Value} (r7 : re_R v7) {x9 : Int32} {x10 : Int32} {xs0 : Int32} {as1 : Nat}
    (K1 : v5 = .null → wp SC 640 d s 155 [(0, .ref a0), (1, .int x1), (2, .int x2), (5, .null), (6, v6), (7, v7), (9, .int x9), (10, .int x10)] [.int xs0, .ref as1] h Q) (K2 : ∀ b1, v5 = .ref b1 → wp SC 640 d s 159 [(0, .ref a0), (1, .int x1), (2, .int x2), (5, .ref b1), (6, v6), (7, v7), (9, .int x9), (10, .int x10)] [.int xs0, .ref as1] h Q) : wp SC 640 d s 150 [(0, .ref a0), (1, .int x1), (2, .int x2), (5, v5), (6, v6), (7, v7), (9, .int x9), (10, .int x10)] [.int xs0, .ref as1] h Q := by
  refine wp_alR (ins := .aload 5) (k := 5) (pc' := 152) ⟨rfl, rfl⟩ (Or.inl ⟨_, rfl, rfl, rfl⟩) rfl r5 ?_
  exact wp_ifnn ⟨rfl, rfl⟩ rfl r5 (fun bb hc => by subst hc; exact wp_weak (re_sb_at rfl (re_sb_at rfl (re_sb_at rfl (re_sb_at rfl (re_sb_at rfl (re_sb_at rfl (re_sb_at rfl (re_sb_at rfl (re_sb_nil _))))))))) (K2 bb rfl)) (fun hc => by subst hc; exact wp_weak (re_sb_at rfl (re_sb_at rfl (re_sb_at rfl (re_sb_at rfl (re_sb_at rfl (re_sb_at rfl (re_sb_at rfl (re_sb_at rfl (re_sb_nil _))))))))) (K1 rfl))
set_option maxRecDepth 20000 in
theorem B640_155 {SC : List Value} {d s : Nat} {h : re_H} {Q : Nat → Value → re_H → Prop} {a0 : Nat} {x1 : Int32} {x2 : Int32} {v5 : Value} (r5 : re_R v5) {v6 : Value} (r6 : re_R v6) {v7 : Value} (r7 : re_R v7) {x9 : Int32} {x10 : Int32} {xs0 : Int32} {as1 : Nat}
    (K : wp SC 640 d s 164 [(0, .ref a0), (1, .int x1), (2, .int x2), (5, v5), (6, v6), (7, v7), (9, .int x9), (10, .int x10)] [.int (i32 0), .int xs0, .ref as1] h Q) : wp SC 640 d s 155 [(0, .ref a0), (1, .int x1), (2, .int x2), (5, v5), (6, v6), (7, v7), (9, .int x9), (10, .int x10)] [.int xs0, .ref as1] h Q := by
  refine wp_run 2 (pc' := 164) (lv' := [(0, .ref a0), (1, .int x1), (2, .int x2), (5, v5), (6, v6), (7, v7), (9, .int x9), (10, .int x10)]) (st' := [.int (i32 0), .int xs0, .ref as1]) rfl ?_
  exact wp_weak (re_sb_at rfl (re_sb_at rfl (re_sb_at rfl (re_sb_at rfl (re_sb_at rfl (re_sb_at rfl (re_sb_at rfl (re_sb_at rfl (re_sb_nil _))))))))) K
set_option maxRecDepth 20000 in
theorem B640_159 {SC : List Value} {d s : Nat} {h : re_H} {Q : Nat → Value → re_H → Prop} {a0 : Nat} {x1 : Int32} {x2 : Int32} {a5 : Nat} {v6 : Value} (r6 : re_R v6) {v7 : Value} (r7 : re_R v7) {x9 : Int32} {x10 : Int32} {xs0 : Int32} {as1 : Nat}
    {xe1 : Int32} (e2 : nb_fd h a5 9 7 (.int xe1)) (K : wp SC 640 d s 164 [(0, .ref a0), (1, .int x1), (2, .int x2), (5, .ref a5), (6, v6), (7, v7), (9, .int x9), (10, .int x10)] [.int xe1, .int xs0, .ref as1] h Q) : wp SC 640 d s 159 [(0, .ref a0), (1, .int x1), (2, .int x2), (5, .ref a5), (6, v6), (7, v7), (9, .int x9), (10, .int x10)] [.int xs0, .ref as1] h Q := by
  refine wp_run 1 (pc' := 161) (lv' := [(0, .ref a0), (1, .int x1), (2, .int x2), (5, .ref a5), (6, v6), (7, v7), (9, .int x9), (10, .int x10)]) (st' := [.ref a5, .int xs0, .ref as1]) rfl ?_
  obtain ⟨w2, e2a, e2b⟩ := e2
  refine wp_gf ⟨rfl, rfl⟩ rfl e2a e2b ?_
  exact wp_weak (re_sb_at rfl (re_sb_at rfl (re_sb_at rfl (re_sb_at rfl (re_sb_at rfl (re_sb_at rfl (re_sb_at rfl (re_sb_at rfl (re_sb_nil _))))))))) K
set_option maxRecDepth 20000 in
theorem B640_164 {SC : List Value} {d s : Nat} {h : re_H} {Q : Nat → Value → re_H → Prop} {a0 : Nat} {x1 : Int32} {x2 : Int32} {v5 : Value} (r5 : re_R v5) {v6 : Value} (r6 : re_R v6) {v7 : Value} (r7 : re_R v7) {x9 : Int32} {x10 : Int32} {xs0 : Int32} {xs1 : Int32} {as2 : Nat}
    (K1 : v6 = .null → wp SC 640 d s 170 [(0, .ref a0), (1, .int x1), (2, .int x2), (5, v5), (6, .null), (7, v7), (9, .int x9)] [.int (xs1 ||| xs0), .ref as2] h Q) (K2 : ∀ b1, v6 = .ref b1 → wp SC 640 d s 174 [(0, .ref a0), (1, .int x1), (2, .int x2), (5, v5), (6, .ref b1), (7, v7), (9, .int x9), (10, .int x10)] [.int (xs1 ||| xs0), .ref as2] h Q) : wp SC 640 d s 164 [(0, .ref a0), (1, .int x1), (2, .int x2), (5, v5), (6, v6), (7, v7), (9, .int x9), (10, .int x10)] [.int xs0, .int xs1, .ref as2] h Q := by
  refine wp_run 1 (pc' := 165) (lv' := [(0, .ref a0), (1, .int x1), (2, .int x2), (5, v5), (6, v6), (7, v7), (9, .int x9), (10, .int x10)]) (st' := [.int (xs1 ||| xs0), .ref as2]) rfl ?_
  refine wp_alR (ins := .aload 6) (k := 6) (pc' := 167) ⟨rfl, rfl⟩ (Or.inl ⟨_, rfl, rfl, rfl⟩) rfl r6 ?_
  exact wp_ifnn ⟨rfl, rfl⟩ rfl r6 (fun bb hc => by subst hc; exact wp_weak (re_sb_at rfl (re_sb_at rfl (re_sb_at rfl (re_sb_at rfl (re_sb_at rfl (re_sb_at rfl (re_sb_at rfl (re_sb_at rfl (re_sb_nil _))))))))) (K2 bb rfl)) (fun hc => by subst hc; exact wp_weak (re_sb_at rfl (re_sb_at rfl (re_sb_at rfl (re_sb_at rfl (re_sb_at rfl (re_sb_at rfl (re_sb_at rfl (re_sb_nil _)))))))) (K1 rfl))
set_option maxRecDepth 20000 in
theorem B640_170 {SC : List Value} {d s : Nat} {h : re_H} {Q : Nat → Value → re_H → Prop} {a0 : Nat} {x1 : Int32} {x2 : Int32} {v5 : Value} (r5 : re_R v5) {v6 : Value} (r6 : re_R v6) {v7 : Value} (r7 : re_R v7) {x9 : Int32} {xs0 : Int32} {as1 : Nat}
    (K : wp SC 640 d s 184 [(0, .ref a0), (1, .int x1), (2, .int x2), (5, v5), (6, v6), (7, v7), (9, .int x9)] [.int (i32 0), .int xs0, .ref as1] h Q) : wp SC 640 d s 170 [(0, .ref a0), (1, .int x1), (2, .int x2), (5, v5), (6, v6), (7, v7), (9, .int x9)] [.int xs0, .ref as1] h Q := by
  refine wp_run 2 (pc' := 184) (lv' := [(0, .ref a0), (1, .int x1), (2, .int x2), (5, v5), (6, v6), (7, v7), (9, .int x9)]) (st' := [.int (i32 0), .int xs0, .ref as1]) rfl ?_
  exact wp_weak (re_sb_at rfl (re_sb_at rfl (re_sb_at rfl (re_sb_at rfl (re_sb_at rfl (re_sb_at rfl (re_sb_at rfl (re_sb_nil _)))))))) K
set_option maxRecDepth 20000 in
theorem B640_174 {SC : List Value} {d s : Nat} {h : re_H} {Q : Nat → Value → re_H → Prop} {a0 : Nat} {x1 : Int32} {x2 : Int32} {v5 : Value} (r5 : re_R v5) {a6 : Nat} {v7 : Value} (r7 : re_R v7) {x9 : Int32} {x10 : Int32} {xs0 : Int32} {as1 : Nat}
    {xe1 : Int32} (e2 : nb_fd h a6 9 7 (.int xe1)) (K : wp SC 640 d s 184 [(0, .ref a0), (1, .int x1), (2, .int x2), (5, v5), (6, .ref a6), (7, v7), (9, .int x9)] [.int (xe1 &&& (x10 ^^^ (-1))), .int xs0, .ref as1] h Q) : wp SC 640 d s 174 [(0, .ref a0), (1, .int x1), (2, .int x2), (5, v5), (6, .ref a6), (7, v7), (9, .int x9), (10, .int x10)] [.int xs0, .ref as1] h Q := by
  refine wp_run 1 (pc' := 176) (lv' := [(0, .ref a0), (1, .int x1), (2, .int x2), (5, v5), (6, .ref a6), (7, v7), (9, .int x9), (10, .int x10)]) (st' := [.ref a6, .int xs0, .ref as1]) rfl ?_
  obtain ⟨w2, e2a, e2b⟩ := e2
  refine wp_gf ⟨rfl, rfl⟩ rfl e2a e2b ?_
  refine wp_run 4 (pc' := 184) (lv' := [(0, .ref a0), (1, .int x1), (2, .int x2), (5, v5), (6, .ref a6), (7, v7), (9, .int x9), (10, .int x10)]) (st' := [.int (xe1 &&& (x10 ^^^ (-1))), .int xs0, .ref as1]) rfl ?_
  exact wp_weak (re_sb_at rfl (re_sb_at rfl (re_sb_at rfl (re_sb_at rfl (re_sb_at rfl (re_sb_at rfl (re_sb_at rfl (re_sb_nil _)))))))) K
set_option maxRecDepth 20000 in
theorem B640_184 {SC : List Value} {d s : Nat} {h : re_H} {Q : Nat → Value → re_H → Prop} {a0 : Nat} {x1 : Int32} {x2 : Int32} {v5 : Value} (r5 : re_R v5) {v6 : Value} (r6 : re_R v6) {v7 : Value} (r7 : re_R v7) {x9 : Int32} {xs0 : Int32} {xs1 : Int32} {as2 : Nat}
    (K1 : v7 = .null → wp SC 640 d s 190 [(0, .ref a0), (1, .int x1), (2, .int x2), (5, v5), (6, v6), (7, .null), (9, .int x9)] [.int (xs1 ||| xs0), .ref as2] h Q) (K2 : ∀ b1, v7 = .ref b1 → wp SC 640 d s 194 [(0, .ref a0), (1, .int x1), (2, .int x2), (5, v5), (6, v6), (7, .ref b1), (9, .int x9)] [.int (xs1 ||| xs0), .ref as2] h Q) : wp SC 640 d s 184 [(0, .ref a0), (1, .int x1), (2, .int x2), (5, v5), (6, v6), (7, v7), (9, .int x9)] [.int xs0, .int xs1, .ref as2] h Q := by
  refine wp_run 1 (pc' := 185) (lv' := [(0, .ref a0), (1, .int x1), (2, .int x2), (5, v5), (6, v6), (7, v7), (9, .int x9)]) (st' := [.int (xs1 ||| xs0), .ref as2]) rfl ?_
  refine wp_alR (ins := .aload 7) (k := 7) (pc' := 187) ⟨rfl, rfl⟩ (Or.inl ⟨_, rfl, rfl, rfl⟩) rfl r7 ?_
  exact wp_ifnn ⟨rfl, rfl⟩ rfl r7 (fun bb hc => by subst hc; exact wp_weak (re_sb_at rfl (re_sb_at rfl (re_sb_at rfl (re_sb_at rfl (re_sb_at rfl (re_sb_at rfl (re_sb_at rfl (re_sb_nil _)))))))) (K2 bb rfl)) (fun hc => by subst hc; exact wp_weak (re_sb_at rfl (re_sb_at rfl (re_sb_at rfl (re_sb_at rfl (re_sb_at rfl (re_sb_at rfl (re_sb_at rfl (re_sb_nil _)))))))) (K1 rfl))
set_option maxRecDepth 20000 in
theorem B640_190 {SC : List Value} {d s : Nat} {h : re_H} {Q : Nat → Value → re_H → Prop} {a0 : Nat} {x1 : Int32} {x2 : Int32} {v5 : Value} (r5 : re_R v5) {v6 : Value} (r6 : re_R v6) {v7 : Value} (r7 : re_R v7) {x9 : Int32} {xs0 : Int32} {as1 : Nat}
    (K : wp SC 640 d s 199 [(0, .ref a0), (1, .int x1), (2, .int x2), (5, v5), (6, v6), (7, v7), (9, .int x9)] [.int (i32 0), .int xs0, .ref as1] h Q) : wp SC 640 d s 190 [(0, .ref a0), (1, .int x1), (2, .int x2), (5, v5), (6, v6), (7, v7), (9, .int x9)] [.int xs0, .ref as1] h Q := by
  refine wp_run 2 (pc' := 199) (lv' := [(0, .ref a0), (1, .int x1), (2, .int x2), (5, v5), (6, v6), (7, v7), (9, .int x9)]) (st' := [.int (i32 0), .int xs0, .ref as1]) rfl ?_
  exact wp_weak (re_sb_at rfl (re_sb_at rfl (re_sb_at rfl (re_sb_at rfl (re_sb_at rfl (re_sb_at rfl (re_sb_at rfl (re_sb_nil _)))))))) K
set_option maxRecDepth 20000 in
theorem B640_194 {SC : List Value} {d s : Nat} {h : re_H} {Q : Nat → Value → re_H → Prop} {a0 : Nat} {x1 : Int32} {x2 : Int32} {v5 : Value} (r5 : re_R v5) {v6 : Value} (r6 : re_R v6) {a7 : Nat} {x9 : Int32} {xs0 : Int32} {as1 : Nat}
    {xe1 : Int32} (e2 : nb_fd h a7 9 7 (.int xe1)) (K : wp SC 640 d s 199 [(0, .ref a0), (1, .int x1), (2, .int x2), (5, v5), (6, v6), (7, .ref a7), (9, .int x9)] [.int xe1, .int xs0, .ref as1] h Q) : wp SC 640 d s 194 [(0, .ref a0), (1, .int x1), (2, .int x2), (5, v5), (6, v6), (7, .ref a7), (9, .int x9)] [.int xs0, .ref as1] h Q := by
  refine wp_run 1 (pc' := 196) (lv' := [(0, .ref a0), (1, .int x1), (2, .int x2), (5, v5), (6, v6), (7, .ref a7), (9, .int x9)]) (st' := [.ref a7, .int xs0, .ref as1]) rfl ?_
  obtain ⟨w2, e2a, e2b⟩ := e2
  refine wp_gf ⟨rfl, rfl⟩ rfl e2a e2b ?_
  exact wp_weak (re_sb_at rfl (re_sb_at rfl (re_sb_at rfl (re_sb_at rfl (re_sb_at rfl (re_sb_at rfl (re_sb_at rfl (re_sb_nil _)))))))) K
set_option maxRecDepth 20000 in
theorem B640_199 {SC : List Value} {d s : Nat} {h : re_H} {Q : Nat → Value → re_H → Prop} {a0 : Nat} {x1 : Int32} {x2 : Int32} {v5 : Value} (r5 : re_R v5) {v6 : Value} (r6 : re_R v6) {v7 : Value} (r7 : re_R v7) {x9 : Int32} {xs0 : Int32} {xs1 : Int32} {as2 : Nat}
    {w : List Value} (e : re_hg h as2 = some (9, w)) (hk : 7 < w.length) (K : wp SC 640 d s 203 [(0, .ref a0), (1, .int x1), (2, .int x2), (5, v5), (6, v6), (7, v7), (9, .int x9)] [] (re_hw h as2 (9, w.set 7 (.int (xs1 ||| xs0)))) Q) : wp SC 640 d s 199 [(0, .ref a0), (1, .int x1), (2, .int x2), (5, v5), (6, v6), (7, v7), (9, .int x9)] [.int xs0, .int xs1, .ref as2] h Q := by
  refine wp_run 1 (pc' := 200) (lv' := [(0, .ref a0), (1, .int x1), (2, .int x2), (5, v5), (6, v6), (7, v7), (9, .int x9)]) (st' := [.int (xs1 ||| xs0), .ref as2]) rfl ?_
  exact wp_pf ⟨rfl, rfl⟩ rfl (Or.inr ⟨rfl, rfl⟩) e hk (fit_i _) (wp_weak (re_sb_at rfl (re_sb_at rfl (re_sb_at rfl (re_sb_at rfl (re_sb_at rfl (re_sb_at rfl (re_sb_at rfl (re_sb_nil _)))))))) K)
set_option maxRecDepth 20000 in
theorem B640_203 {SC : List Value} {d s : Nat} {h : re_H} {Q : Nat → Value → re_H → Prop} {a0 : Nat} {x1 : Int32} {x2 : Int32} {v5 : Value} (r5 : re_R v5) {v6 : Value} (r6 : re_R v6) {v7 : Value} (r7 : re_R v7) {x9 : Int32}
    (K1 : v5 = .null → wp SC 640 d s 211 [(0, .ref a0), (1, .int x1), (2, .int x2), (5, .null), (6, v6), (7, v7)] [.int x9, .ref a0] h Q) (K2 : ∀ b1, v5 = .ref b1 → wp SC 640 d s 215 [(0, .ref a0), (1, .int x1), (2, .int x2), (5, .ref b1), (6, v6), (7, v7)] [.int x9, .ref a0] h Q) : wp SC 640 d s 203 [(0, .ref a0), (1, .int x1), (2, .int x2), (5, v5), (6, v6), (7, v7), (9, .int x9)] [] h Q := by
  refine wp_run 2 (pc' := 206) (lv' := [(0, .ref a0), (1, .int x1), (2, .int x2), (5, v5), (6, v6), (7, v7), (9, .int x9)]) (st' := [.int x9, .ref a0]) rfl ?_
  refine wp_alR (ins := .aload 5) (k := 5) (pc' := 208) ⟨rfl, rfl⟩ (Or.inl ⟨_, rfl, rfl, rfl⟩) rfl r5 ?_
  exact wp_ifnn ⟨rfl, rfl⟩ rfl r5 (fun bb hc => by subst hc; exact wp_weak (re_sb_at rfl (re_sb_at rfl (re_sb_at rfl (re_sb_at rfl (re_sb_at rfl (re_sb_at rfl (re_sb_nil _))))))) (K2 bb rfl)) (fun hc => by subst hc; exact wp_weak (re_sb_at rfl (re_sb_at rfl (re_sb_at rfl (re_sb_at rfl (re_sb_at rfl (re_sb_at rfl (re_sb_nil _))))))) (K1 rfl))
set_option maxRecDepth 20000 in
theorem B640_211 {SC : List Value} {d s : Nat} {h : re_H} {Q : Nat → Value → re_H → Prop} {a0 : Nat} {x1 : Int32} {x2 : Int32} {v5 : Value} (r5 : re_R v5) {v6 : Value} (r6 : re_R v6) {v7 : Value} (r7 : re_R v7) {xs0 : Int32} {as1 : Nat}
    (K : wp SC 640 d s 220 [(0, .ref a0), (1, .int x1), (2, .int x2), (5, v5), (6, v6), (7, v7)] [.int (i32 0), .int xs0, .ref as1] h Q) : wp SC 640 d s 211 [(0, .ref a0), (1, .int x1), (2, .int x2), (5, v5), (6, v6), (7, v7)] [.int xs0, .ref as1] h Q := by
  refine wp_run 2 (pc' := 220) (lv' := [(0, .ref a0), (1, .int x1), (2, .int x2), (5, v5), (6, v6), (7, v7)]) (st' := [.int (i32 0), .int xs0, .ref as1]) rfl ?_
  exact wp_weak (re_sb_at rfl (re_sb_at rfl (re_sb_at rfl (re_sb_at rfl (re_sb_at rfl (re_sb_at rfl (re_sb_nil _))))))) K
set_option maxRecDepth 20000 in
theorem B640_215 {SC : List Value} {d s : Nat} {h : re_H} {Q : Nat → Value → re_H → Prop} {a0 : Nat} {x1 : Int32} {x2 : Int32} {a5 : Nat} {v6 : Value} (r6 : re_R v6) {v7 : Value} (r7 : re_R v7) {xs0 : Int32} {as1 : Nat}
    {xe1 : Int32} (e2 : nb_fd h a5 9 8 (.int xe1)) (K : wp SC 640 d s 220 [(0, .ref a0), (1, .int x1), (2, .int x2), (5, .ref a5), (6, v6), (7, v7)] [.int xe1, .int xs0, .ref as1] h Q) : wp SC 640 d s 215 [(0, .ref a0), (1, .int x1), (2, .int x2), (5, .ref a5), (6, v6), (7, v7)] [.int xs0, .ref as1] h Q := by
  refine wp_run 1 (pc' := 217) (lv' := [(0, .ref a0), (1, .int x1), (2, .int x2), (5, .ref a5), (6, v6), (7, v7)]) (st' := [.ref a5, .int xs0, .ref as1]) rfl ?_
  obtain ⟨w2, e2a, e2b⟩ := e2
  refine wp_gf ⟨rfl, rfl⟩ rfl e2a e2b ?_
  exact wp_weak (re_sb_at rfl (re_sb_at rfl (re_sb_at rfl (re_sb_at rfl (re_sb_at rfl (re_sb_at rfl (re_sb_nil _))))))) K
set_option maxRecDepth 20000 in
theorem B640_220 {SC : List Value} {d s : Nat} {h : re_H} {Q : Nat → Value → re_H → Prop} {a0 : Nat} {x1 : Int32} {x2 : Int32} {v5 : Value} (r5 : re_R v5) {v6 : Value} (r6 : re_R v6) {v7 : Value} (r7 : re_R v7) {xs0 : Int32} {xs1 : Int32} {as2 : Nat}
    (K1 : v6 = .null → wp SC 640 d s 226 [(0, .ref a0), (1, .int x1), (2, .int x2), (5, v5), (6, .null), (7, v7)] [.int (xs1 ||| xs0), .ref as2] h Q) (K2 : ∀ b1, v6 = .ref b1 → wp SC 640 d s 230 [(0, .ref a0), (1, .int x1), (2, .int x2), (5, v5), (6, .ref b1), (7, v7)] [.int (xs1 ||| xs0), .ref as2] h Q) : wp SC 640 d s 220 [(0, .ref a0), (1, .int x1), (2, .int x2), (5, v5), (6, v6), (7, v7)] [.int xs0, .int xs1, .ref as2] h Q := by
  refine wp_run 1 (pc' := 221) (lv' := [(0, .ref a0), (1, .int x1), (2, .int x2), (5, v5), (6, v6), (7, v7)]) (st' := [.int (xs1 ||| xs0), .ref as2]) rfl ?_
  refine wp_alR (ins := .aload 6) (k := 6) (pc' := 223) ⟨rfl, rfl⟩ (Or.inl ⟨_, rfl, rfl, rfl⟩) rfl r6 ?_
  exact wp_ifnn ⟨rfl, rfl⟩ rfl r6 (fun bb hc => by subst hc; exact wp_weak (re_sb_at rfl (re_sb_at rfl (re_sb_at rfl (re_sb_at rfl (re_sb_at rfl (re_sb_at rfl (re_sb_nil _))))))) (K2 bb rfl)) (fun hc => by subst hc; exact wp_weak (re_sb_at rfl (re_sb_at rfl (re_sb_at rfl (re_sb_at rfl (re_sb_at rfl (re_sb_at rfl (re_sb_nil _))))))) (K1 rfl))
set_option maxRecDepth 20000 in
theorem B640_226 {SC : List Value} {d s : Nat} {h : re_H} {Q : Nat → Value → re_H → Prop} {a0 : Nat} {x1 : Int32} {x2 : Int32} {v5 : Value} (r5 : re_R v5) {v6 : Value} (r6 : re_R v6) {v7 : Value} (r7 : re_R v7) {xs0 : Int32} {as1 : Nat}
    (K : wp SC 640 d s 235 [(0, .ref a0), (1, .int x1), (2, .int x2), (5, v5), (6, v6), (7, v7)] [.int (i32 0), .int xs0, .ref as1] h Q) : wp SC 640 d s 226 [(0, .ref a0), (1, .int x1), (2, .int x2), (5, v5), (6, v6), (7, v7)] [.int xs0, .ref as1] h Q := by
  refine wp_run 2 (pc' := 235) (lv' := [(0, .ref a0), (1, .int x1), (2, .int x2), (5, v5), (6, v6), (7, v7)]) (st' := [.int (i32 0), .int xs0, .ref as1]) rfl ?_
  exact wp_weak (re_sb_at rfl (re_sb_at rfl (re_sb_at rfl (re_sb_at rfl (re_sb_at rfl (re_sb_at rfl (re_sb_nil _))))))) K
set_option maxRecDepth 20000 in
theorem B640_230 {SC : List Value} {d s : Nat} {h : re_H} {Q : Nat → Value → re_H → Prop} {a0 : Nat} {x1 : Int32} {x2 : Int32} {v5 : Value} (r5 : re_R v5) {a6 : Nat} {v7 : Value} (r7 : re_R v7) {xs0 : Int32} {as1 : Nat}
    {xe1 : Int32} (e2 : nb_fd h a6 9 8 (.int xe1)) (K : wp SC 640 d s 235 [(0, .ref a0), (1, .int x1), (2, .int x2), (5, v5), (6, .ref a6), (7, v7)] [.int xe1, .int xs0, .ref as1] h Q) : wp SC 640 d s 230 [(0, .ref a0), (1, .int x1), (2, .int x2), (5, v5), (6, .ref a6), (7, v7)] [.int xs0, .ref as1] h Q := by
  refine wp_run 1 (pc' := 232) (lv' := [(0, .ref a0), (1, .int x1), (2, .int x2), (5, v5), (6, .ref a6), (7, v7)]) (st' := [.ref a6, .int xs0, .ref as1]) rfl ?_
  obtain ⟨w2, e2a, e2b⟩ := e2
  refine wp_gf ⟨rfl, rfl⟩ rfl e2a e2b ?_
  exact wp_weak (re_sb_at rfl (re_sb_at rfl (re_sb_at rfl (re_sb_at rfl (re_sb_at rfl (re_sb_at rfl (re_sb_nil _))))))) K
set_option maxRecDepth 20000 in
theorem B640_235 {SC : List Value} {d s : Nat} {h : re_H} {Q : Nat → Value → re_H → Prop} {a0 : Nat} {x1 : Int32} {x2 : Int32} {v5 : Value} (r5 : re_R v5) {v6 : Value} (r6 : re_R v6) {v7 : Value} (r7 : re_R v7) {xs0 : Int32} {xs1 : Int32} {as2 : Nat}
    (K1 : v7 = .null → wp SC 640 d s 241 [(0, .ref a0), (1, .int x1), (2, .int x2), (5, v5), (6, v6), (7, .null)] [.int (xs1 ||| xs0), .ref as2] h Q) (K2 : ∀ b1, v7 = .ref b1 → wp SC 640 d s 245 [(0, .ref a0), (1, .int x1), (2, .int x2), (5, v5), (6, v6), (7, .ref b1)] [.int (xs1 ||| xs0), .ref as2] h Q) : wp SC 640 d s 235 [(0, .ref a0), (1, .int x1), (2, .int x2), (5, v5), (6, v6), (7, v7)] [.int xs0, .int xs1, .ref as2] h Q := by
  refine wp_run 1 (pc' := 236) (lv' := [(0, .ref a0), (1, .int x1), (2, .int x2), (5, v5), (6, v6), (7, v7)]) (st' := [.int (xs1 ||| xs0), .ref as2]) rfl ?_
  refine wp_alR (ins := .aload 7) (k := 7) (pc' := 238) ⟨rfl, rfl⟩ (Or.inl ⟨_, rfl, rfl, rfl⟩) rfl r7 ?_
  exact wp_ifnn ⟨rfl, rfl⟩ rfl r7 (fun bb hc => by subst hc; exact wp_weak (re_sb_at rfl (re_sb_at rfl (re_sb_at rfl (re_sb_at rfl (re_sb_at rfl (re_sb_at rfl (re_sb_nil _))))))) (K2 bb rfl)) (fun hc => by subst hc; exact wp_weak (re_sb_at rfl (re_sb_at rfl (re_sb_at rfl (re_sb_at rfl (re_sb_at rfl (re_sb_at rfl (re_sb_nil _))))))) (K1 rfl))
set_option maxRecDepth 20000 in
theorem B640_241 {SC : List Value} {d s : Nat} {h : re_H} {Q : Nat → Value → re_H → Prop} {a0 : Nat} {x1 : Int32} {x2 : Int32} {v5 : Value} (r5 : re_R v5) {v6 : Value} (r6 : re_R v6) {v7 : Value} (r7 : re_R v7) {xs0 : Int32} {as1 : Nat}
    (K : wp SC 640 d s 250 [(0, .ref a0), (1, .int x1), (2, .int x2), (5, v5), (6, v6), (7, v7)] [.int (i32 0), .int xs0, .ref as1] h Q) : wp SC 640 d s 241 [(0, .ref a0), (1, .int x1), (2, .int x2), (5, v5), (6, v6), (7, v7)] [.int xs0, .ref as1] h Q := by
  refine wp_run 2 (pc' := 250) (lv' := [(0, .ref a0), (1, .int x1), (2, .int x2), (5, v5), (6, v6), (7, v7)]) (st' := [.int (i32 0), .int xs0, .ref as1]) rfl ?_
  exact wp_weak (re_sb_at rfl (re_sb_at rfl (re_sb_at rfl (re_sb_at rfl (re_sb_at rfl (re_sb_at rfl (re_sb_nil _))))))) K
set_option maxRecDepth 20000 in
theorem B640_245 {SC : List Value} {d s : Nat} {h : re_H} {Q : Nat → Value → re_H → Prop} {a0 : Nat} {x1 : Int32} {x2 : Int32} {v5 : Value} (r5 : re_R v5) {v6 : Value} (r6 : re_R v6) {a7 : Nat} {xs0 : Int32} {as1 : Nat}
    {xe1 : Int32} (e2 : nb_fd h a7 9 8 (.int xe1)) (K : wp SC 640 d s 250 [(0, .ref a0), (1, .int x1), (2, .int x2), (5, v5), (6, v6), (7, .ref a7)] [.int xe1, .int xs0, .ref as1] h Q) : wp SC 640 d s 245 [(0, .ref a0), (1, .int x1), (2, .int x2), (5, v5), (6, v6), (7, .ref a7)] [.int xs0, .ref as1] h Q := by
  refine wp_run 1 (pc' := 247) (lv' := [(0, .ref a0), (1, .int x1), (2, .int x2), (5, v5), (6, v6), (7, .ref a7)]) (st' := [.ref a7, .int xs0, .ref as1]) rfl ?_
  obtain ⟨w2, e2a, e2b⟩ := e2
  refine wp_gf ⟨rfl, rfl⟩ rfl e2a e2b ?_
  exact wp_weak (re_sb_at rfl (re_sb_at rfl (re_sb_at rfl (re_sb_at rfl (re_sb_at rfl (re_sb_at rfl (re_sb_nil _))))))) K
set_option maxRecDepth 20000 in
theorem B640_250 {SC : List Value} {d s : Nat} {h : re_H} {Q : Nat → Value → re_H → Prop} {a0 : Nat} {x1 : Int32} {x2 : Int32} {v5 : Value} (r5 : re_R v5) {v6 : Value} (r6 : re_R v6) {v7 : Value} (r7 : re_R v7) {xs0 : Int32} {xs1 : Int32} {as2 : Nat}
    {w : List Value} (e : re_hg h as2 = some (9, w)) (hk : 8 < w.length) (K : wp SC 640 d s 254 [(0, .ref a0), (1, .int x1), (2, .int x2), (5, v5), (6, v6), (7, v7)] [] (re_hw h as2 (9, w.set 8 (.int (xs1 ||| xs0)))) Q) : wp SC 640 d s 250 [(0, .ref a0), (1, .int x1), (2, .int x2), (5, v5), (6, v6), (7, v7)] [.int xs0, .int xs1, .ref as2] h Q := by
  refine wp_run 1 (pc' := 251) (lv' := [(0, .ref a0), (1, .int x1), (2, .int x2), (5, v5), (6, v6), (7, v7)]) (st' := [.int (xs1 ||| xs0), .ref as2]) rfl ?_
  exact wp_pf ⟨rfl, rfl⟩ rfl (Or.inr ⟨rfl, rfl⟩) e hk (fit_i _) (wp_weak (re_sb_at rfl (re_sb_at rfl (re_sb_at rfl (re_sb_at rfl (re_sb_at rfl (re_sb_at rfl (re_sb_nil _))))))) K)
set_option maxRecDepth 20000 in
theorem B640_254 {SC : List Value} {d s : Nat} {h : re_H} {Q : Nat → Value → re_H → Prop} {a0 : Nat} {x1 : Int32} {x2 : Int32} {v5 : Value} (r5 : re_R v5) {v6 : Value} (r6 : re_R v6) {v7 : Value} (r7 : re_R v7)
    (K1 : ¬ x1 = (i32 2) → wp SC 640 d s 266 [(0, .ref a0), (1, .int x1), (5, v5), (6, v6), (7, v7)] [.ref a0] h Q) (K2 : x1 = (i32 2) → wp SC 640 d s 260 [(0, .ref a0), (1, .int x1), (2, .int x2), (5, v5), (6, v6), (7, v7)] [.ref a0] h Q) : wp SC 640 d s 254 [(0, .ref a0), (1, .int x1), (2, .int x2), (5, v5), (6, v6), (7, v7)] [] h Q := by
  refine wp_run 3 (pc' := 257) (lv' := [(0, .ref a0), (1, .int x1), (2, .int x2), (5, v5), (6, v6), (7, v7)]) (st' := [.int (i32 2), .int x1, .ref a0]) rfl ?_
  exact wp_cmp ⟨rfl, rfl⟩ rfl (fun hc => wp_weak (re_sb_at rfl (re_sb_at rfl (re_sb_at rfl (re_sb_at rfl (re_sb_at rfl (re_sb_nil _)))))) (K1 (ic1_ne hc))) (fun hc => wp_weak (re_sb_at rfl (re_sb_at rfl (re_sb_at rfl (re_sb_at rfl (re_sb_at rfl (re_sb_at rfl (re_sb_nil _))))))) (K2 (ic0_ne hc)))
set_option maxRecDepth 20000 in
theorem B640_260 {SC : List Value} {d s : Nat} {h : re_H} {Q : Nat → Value → re_H → Prop} {a0 : Nat} {x1 : Int32} {x2 : Int32} {v5 : Value} (r5 : re_R v5) {v6 : Value} (r6 : re_R v6) {v7 : Value} (r7 : re_R v7) {as0 : Nat}
    (K : wp SC 640 d s 267 [(0, .ref a0), (1, .int x1), (5, v5), (6, v6), (7, v7)] [.int ((i32 1) <<< (x2 &&& 31)), .ref as0] h Q) : wp SC 640 d s 260 [(0, .ref a0), (1, .int x1), (2, .int x2), (5, v5), (6, v6), (7, v7)] [.ref as0] h Q := by
  refine wp_run 4 (pc' := 267) (lv' := [(0, .ref a0), (1, .int x1), (2, .int x2), (5, v5), (6, v6), (7, v7)]) (st' := [.int ((i32 1) <<< (x2 &&& 31)), .ref as0]) rfl ?_
  exact wp_weak (re_sb_at rfl (re_sb_at rfl (re_sb_at rfl (re_sb_at rfl (re_sb_at rfl (re_sb_nil _)))))) K
set_option maxRecDepth 20000 in
theorem B640_266 {SC : List Value} {d s : Nat} {h : re_H} {Q : Nat → Value → re_H → Prop} {a0 : Nat} {x1 : Int32} {v5 : Value} (r5 : re_R v5) {v6 : Value} (r6 : re_R v6) {v7 : Value} (r7 : re_R v7) {as0 : Nat}
    (K : wp SC 640 d s 267 [(0, .ref a0), (1, .int x1), (5, v5), (6, v6), (7, v7)] [.int (i32 0), .ref as0] h Q) : wp SC 640 d s 266 [(0, .ref a0), (1, .int x1), (5, v5), (6, v6), (7, v7)] [.ref as0] h Q := by
  refine wp_run 1 (pc' := 267) (lv' := [(0, .ref a0), (1, .int x1), (5, v5), (6, v6), (7, v7)]) (st' := [.int (i32 0), .ref as0]) rfl ?_
  exact wp_weak (re_sb_at rfl (re_sb_at rfl (re_sb_at rfl (re_sb_at rfl (re_sb_at rfl (re_sb_nil _)))))) K
set_option maxRecDepth 20000 in
theorem B640_267 {SC : List Value} {d s : Nat} {h : re_H} {Q : Nat → Value → re_H → Prop} {a0 : Nat} {x1 : Int32} {v5 : Value} (r5 : re_R v5) {v6 : Value} (r6 : re_R v6) {v7 : Value} (r7 : re_R v7) {xs0 : Int32} {as1 : Nat}
    (K1 : v5 = .null → wp SC 640 d s 272 [(0, .ref a0), (1, .int x1), (5, .null), (6, v6), (7, v7)] [.int xs0, .ref as1] h Q) (K2 : ∀ b1, v5 = .ref b1 → wp SC 640 d s 276 [(0, .ref a0), (1, .int x1), (5, .ref b1), (6, v6), (7, v7)] [.int xs0, .ref as1] h Q) : wp SC 640 d s 267 [(0, .ref a0), (1, .int x1), (5, v5), (6, v6), (7, v7)] [.int xs0, .ref as1] h Q := by
  refine wp_alR (ins := .aload 5) (k := 5) (pc' := 269) ⟨rfl, rfl⟩ (Or.inl ⟨_, rfl, rfl, rfl⟩) rfl r5 ?_
  exact wp_ifnn ⟨rfl, rfl⟩ rfl r5 (fun bb hc => by subst hc; exact wp_weak (re_sb_at rfl (re_sb_at rfl (re_sb_at rfl (re_sb_at rfl (re_sb_at rfl (re_sb_nil _)))))) (K2 bb rfl)) (fun hc => by subst hc; exact wp_weak (re_sb_at rfl (re_sb_at rfl (re_sb_at rfl (re_sb_at rfl (re_sb_at rfl (re_sb_nil _)))))) (K1 rfl))
set_option maxRecDepth 20000 in
theorem B640_272 {SC : List Value} {d s : Nat} {h : re_H} {Q : Nat → Value → re_H → Prop} {a0 : Nat} {x1 : Int32} {v5 : Value} (r5 : re_R v5) {v6 : Value} (r6 : re_R v6) {v7 : Value} (r7 : re_R v7) {xs0 : Int32} {as1 : Nat}
    (K : wp SC 640 d s 281 [(0, .ref a0), (1, .int x1), (5, v5), (6, v6), (7, v7)] [.int (i32 0), .int xs0, .ref as1] h Q) : wp SC 640 d s 272 [(0, .ref a0), (1, .int x1), (5, v5), (6, v6), (7, v7)] [.int xs0, .ref as1] h Q := by
  refine wp_run 2 (pc' := 281) (lv' := [(0, .ref a0), (1, .int x1), (5, v5), (6, v6), (7, v7)]) (st' := [.int (i32 0), .int xs0, .ref as1]) rfl ?_
  exact wp_weak (re_sb_at rfl (re_sb_at rfl (re_sb_at rfl (re_sb_at rfl (re_sb_at rfl (re_sb_nil _)))))) K
set_option maxRecDepth 20000 in
theorem B640_276 {SC : List Value} {d s : Nat} {h : re_H} {Q : Nat → Value → re_H → Prop} {a0 : Nat} {x1 : Int32} {a5 : Nat} {v6 : Value} (r6 : re_R v6) {v7 : Value} (r7 : re_R v7) {xs0 : Int32} {as1 : Nat}
    {xe1 : Int32} (e2 : nb_fd h a5 9 9 (.int xe1)) (K : wp SC 640 d s 281 [(0, .ref a0), (1, .int x1), (5, .ref a5), (6, v6), (7, v7)] [.int xe1, .int xs0, .ref as1] h Q) : wp SC 640 d s 276 [(0, .ref a0), (1, .int x1), (5, .ref a5), (6, v6), (7, v7)] [.int xs0, .ref as1] h Q := by
  refine wp_run 1 (pc' := 278) (lv' := [(0, .ref a0), (1, .int x1), (5, .ref a5), (6, v6), (7, v7)]) (st' := [.ref a5, .int xs0, .ref as1]) rfl ?_
  obtain ⟨w2, e2a, e2b⟩ := e2
  refine wp_gf ⟨rfl, rfl⟩ rfl e2a e2b ?_
  exact wp_weak (re_sb_at rfl (re_sb_at rfl (re_sb_at rfl (re_sb_at rfl (re_sb_at rfl (re_sb_nil _)))))) K
set_option maxRecDepth 20000 in
theorem B640_281 {SC : List Value} {d s : Nat} {h : re_H} {Q : Nat → Value → re_H → Prop} {a0 : Nat} {x1 : Int32} {v5 : Value} (r5 : re_R v5) {v6 : Value} (r6 : re_R v6) {v7 : Value} (r7 : re_R v7) {xs0 : Int32} {xs1 : Int32} {as2 : Nat}
    (K1 : v6 = .null → wp SC 640 d s 287 [(0, .ref a0), (1, .int x1), (5, v5), (6, .null), (7, v7)] [.int (xs1 ||| xs0), .ref as2] h Q) (K2 : ∀ b1, v6 = .ref b1 → wp SC 640 d s 291 [(0, .ref a0), (1, .int x1), (5, v5), (6, .ref b1), (7, v7)] [.int (xs1 ||| xs0), .ref as2] h Q) : wp SC 640 d s 281 [(0, .ref a0), (1, .int x1), (5, v5), (6, v6), (7, v7)] [.int xs0, .int xs1, .ref as2] h Q := by
  refine wp_run 1 (pc' := 282) (lv' := [(0, .ref a0), (1, .int x1), (5, v5), (6, v6), (7, v7)]) (st' := [.int (xs1 ||| xs0), .ref as2]) rfl ?_
  refine wp_alR (ins := .aload 6) (k := 6) (pc' := 284) ⟨rfl, rfl⟩ (Or.inl ⟨_, rfl, rfl, rfl⟩) rfl r6 ?_
  exact wp_ifnn ⟨rfl, rfl⟩ rfl r6 (fun bb hc => by subst hc; exact wp_weak (re_sb_at rfl (re_sb_at rfl (re_sb_at rfl (re_sb_at rfl (re_sb_at rfl (re_sb_nil _)))))) (K2 bb rfl)) (fun hc => by subst hc; exact wp_weak (re_sb_at rfl (re_sb_at rfl (re_sb_at rfl (re_sb_at rfl (re_sb_at rfl (re_sb_nil _)))))) (K1 rfl))
set_option maxRecDepth 20000 in
theorem B640_287 {SC : List Value} {d s : Nat} {h : re_H} {Q : Nat → Value → re_H → Prop} {a0 : Nat} {x1 : Int32} {v5 : Value} (r5 : re_R v5) {v6 : Value} (r6 : re_R v6) {v7 : Value} (r7 : re_R v7) {xs0 : Int32} {as1 : Nat}
    (K : wp SC 640 d s 296 [(0, .ref a0), (1, .int x1), (5, v5), (6, v6), (7, v7)] [.int (i32 0), .int xs0, .ref as1] h Q) : wp SC 640 d s 287 [(0, .ref a0), (1, .int x1), (5, v5), (6, v6), (7, v7)] [.int xs0, .ref as1] h Q := by
  refine wp_run 2 (pc' := 296) (lv' := [(0, .ref a0), (1, .int x1), (5, v5), (6, v6), (7, v7)]) (st' := [.int (i32 0), .int xs0, .ref as1]) rfl ?_
  exact wp_weak (re_sb_at rfl (re_sb_at rfl (re_sb_at rfl (re_sb_at rfl (re_sb_at rfl (re_sb_nil _)))))) K
set_option maxRecDepth 20000 in
theorem B640_291 {SC : List Value} {d s : Nat} {h : re_H} {Q : Nat → Value → re_H → Prop} {a0 : Nat} {x1 : Int32} {v5 : Value} (r5 : re_R v5) {a6 : Nat} {v7 : Value} (r7 : re_R v7) {xs0 : Int32} {as1 : Nat}
    {xe1 : Int32} (e2 : nb_fd h a6 9 9 (.int xe1)) (K : wp SC 640 d s 296 [(0, .ref a0), (1, .int x1), (5, v5), (6, .ref a6), (7, v7)] [.int xe1, .int xs0, .ref as1] h Q) : wp SC 640 d s 291 [(0, .ref a0), (1, .int x1), (5, v5), (6, .ref a6), (7, v7)] [.int xs0, .ref as1] h Q := by
  refine wp_run 1 (pc' := 293) (lv' := [(0, .ref a0), (1, .int x1), (5, v5), (6, .ref a6), (7, v7)]) (st' := [.ref a6, .int xs0, .ref as1]) rfl ?_
  obtain ⟨w2, e2a, e2b⟩ := e2
  refine wp_gf ⟨rfl, rfl⟩ rfl e2a e2b ?_
  exact wp_weak (re_sb_at rfl (re_sb_at rfl (re_sb_at rfl (re_sb_at rfl (re_sb_at rfl (re_sb_nil _)))))) K
set_option maxRecDepth 20000 in
theorem B640_296 {SC : List Value} {d s : Nat} {h : re_H} {Q : Nat → Value → re_H → Prop} {a0 : Nat} {x1 : Int32} {v5 : Value} (r5 : re_R v5) {v6 : Value} (r6 : re_R v6) {v7 : Value} (r7 : re_R v7) {xs0 : Int32} {xs1 : Int32} {as2 : Nat}
    (K1 : v7 = .null → wp SC 640 d s 302 [(0, .ref a0), (1, .int x1), (5, v5), (6, v6), (7, .null)] [.int (xs1 ||| xs0), .ref as2] h Q) (K2 : ∀ b1, v7 = .ref b1 → wp SC 640 d s 306 [(0, .ref a0), (1, .int x1), (5, v5), (6, v6), (7, .ref b1)] [.int (xs1 ||| xs0), .ref as2] h Q) : wp SC 640 d s 296 [(0, .ref a0), (1, .int x1), (5, v5), (6, v6), (7, v7)] [.int xs0, .int xs1, .ref as2] h Q := by
  refine wp_run 1 (pc' := 297) (lv' := [(0, .ref a0), (1, .int x1), (5, v5), (6, v6), (7, v7)]) (st' := [.int (xs1 ||| xs0), .ref as2]) rfl ?_
  refine wp_alR (ins := .aload 7) (k := 7) (pc' := 299) ⟨rfl, rfl⟩ (Or.inl ⟨_, rfl, rfl, rfl⟩) rfl r7 ?_
  exact wp_ifnn ⟨rfl, rfl⟩ rfl r7 (fun bb hc => by subst hc; exact wp_weak (re_sb_at rfl (re_sb_at rfl (re_sb_at rfl (re_sb_at rfl (re_sb_at rfl (re_sb_nil _)))))) (K2 bb rfl)) (fun hc => by subst hc; exact wp_weak (re_sb_at rfl (re_sb_at rfl (re_sb_at rfl (re_sb_at rfl (re_sb_at rfl (re_sb_nil _)))))) (K1 rfl))
set_option maxRecDepth 20000 in
theorem B640_302 {SC : List Value} {d s : Nat} {h : re_H} {Q : Nat → Value → re_H → Prop} {a0 : Nat} {x1 : Int32} {v5 : Value} (r5 : re_R v5) {v6 : Value} (r6 : re_R v6) {v7 : Value} (r7 : re_R v7) {xs0 : Int32} {as1 : Nat}
    (K : wp SC 640 d s 311 [(0, .ref a0), (1, .int x1), (5, v5), (6, v6), (7, v7)] [.int (i32 0), .int xs0, .ref as1] h Q) : wp SC 640 d s 302 [(0, .ref a0), (1, .int x1), (5, v5), (6, v6), (7, v7)] [.int xs0, .ref as1] h Q := by
  refine wp_run 2 (pc' := 311) (lv' := [(0, .ref a0), (1, .int x1), (5, v5), (6, v6), (7, v7)]) (st' := [.int (i32 0), .int xs0, .ref as1]) rfl ?_
  exact wp_weak (re_sb_at rfl (re_sb_at rfl (re_sb_at rfl (re_sb_at rfl (re_sb_at rfl (re_sb_nil _)))))) K
set_option maxRecDepth 20000 in
theorem B640_306 {SC : List Value} {d s : Nat} {h : re_H} {Q : Nat → Value → re_H → Prop} {a0 : Nat} {x1 : Int32} {v5 : Value} (r5 : re_R v5) {v6 : Value} (r6 : re_R v6) {a7 : Nat} {xs0 : Int32} {as1 : Nat}
    {xe1 : Int32} (e2 : nb_fd h a7 9 9 (.int xe1)) (K : wp SC 640 d s 311 [(0, .ref a0), (1, .int x1), (5, v5), (6, v6), (7, .ref a7)] [.int xe1, .int xs0, .ref as1] h Q) : wp SC 640 d s 306 [(0, .ref a0), (1, .int x1), (5, v5), (6, v6), (7, .ref a7)] [.int xs0, .ref as1] h Q := by
  refine wp_run 1 (pc' := 308) (lv' := [(0, .ref a0), (1, .int x1), (5, v5), (6, v6), (7, .ref a7)]) (st' := [.ref a7, .int xs0, .ref as1]) rfl ?_
  obtain ⟨w2, e2a, e2b⟩ := e2
  refine wp_gf ⟨rfl, rfl⟩ rfl e2a e2b ?_
  exact wp_weak (re_sb_at rfl (re_sb_at rfl (re_sb_at rfl (re_sb_at rfl (re_sb_at rfl (re_sb_nil _)))))) K
set_option maxRecDepth 20000 in
theorem B640_311 {SC : List Value} {d s : Nat} {h : re_H} {Q : Nat → Value → re_H → Prop} {a0 : Nat} {x1 : Int32} {v5 : Value} (r5 : re_R v5) {v6 : Value} (r6 : re_R v6) {v7 : Value} (r7 : re_R v7) {xs0 : Int32} {xs1 : Int32} {as2 : Nat}
    {w : List Value} (e : re_hg h as2 = some (9, w)) (hk : 9 < w.length) (K : wp SC 640 d s 315 [(0, .ref a0), (1, .int x1), (5, v5), (6, v6), (7, v7)] [] (re_hw h as2 (9, w.set 9 (.int (xs1 ||| xs0)))) Q) : wp SC 640 d s 311 [(0, .ref a0), (1, .int x1), (5, v5), (6, v6), (7, v7)] [.int xs0, .int xs1, .ref as2] h Q := by
  refine wp_run 1 (pc' := 312) (lv' := [(0, .ref a0), (1, .int x1), (5, v5), (6, v6), (7, v7)]) (st' := [.int (xs1 ||| xs0), .ref as2]) rfl ?_
  exact wp_pf ⟨rfl, rfl⟩ rfl (Or.inr ⟨rfl, rfl⟩) e hk (fit_i _) (wp_weak (re_sb_at rfl (re_sb_at rfl (re_sb_at rfl (re_sb_at rfl (re_sb_at rfl (re_sb_nil _)))))) K)
set_option maxRecDepth 20000 in
theorem B640_315 {SC : List Value} {d s : Nat} {h : re_H} {Q : Nat → Value → re_H → Prop} {a0 : Nat} {x1 : Int32} {v5 : Value} (r5 : re_R v5) {v6 : Value} (r6 : re_R v6) {v7 : Value} (r7 : re_R v7)
    (K1 : x1 = (i32 3) → wp SC 640 d s 360 [] [.ref a0] h Q) (K2 : ¬ x1 = (i32 3) → wp SC 640 d s 321 [(5, v5), (6, v6), (7, v7)] [.ref a0] h Q) : wp SC 640 d s 315 [(0, .ref a0), (1, .int x1), (5, v5), (6, v6), (7, v7)] [] h Q := by
  refine wp_run 3 (pc' := 318) (lv' := [(0, .ref a0), (1, .int x1), (5, v5), (6, v6), (7, v7)]) (st' := [.int (i32 3), .int x1, .ref a0]) rfl ?_
  exact wp_cmp ⟨rfl, rfl⟩ rfl (fun hc => wp_weak (re_sb_nil _) (K1 (ic1_eq hc))) (fun hc => wp_weak (re_sb_at rfl (re_sb_at rfl (re_sb_at rfl (re_sb_nil _)))) (K2 (ic0_eq hc)))
set_option maxRecDepth 20000 in
theorem B640_321 {SC : List Value} {d s : Nat} {h : re_H} {Q : Nat → Value → re_H → Prop} {v5 : Value} (r5 : re_R v5) {v6 : Value} (r6 : re_R v6) {v7 : Value} (r7 : re_R v7) {as0 : Nat}
    (K1 : v5 = .null → wp SC 640 d s 334 [(6, v6), (7, v7)] [.ref as0] h Q) (K2 : ∀ b1, v5 = .ref b1 → wp SC 640 d s 326 [(5, .ref b1), (6, v6), (7, v7)] [.ref as0] h Q) : wp SC 640 d s 321 [(5, v5), (6, v6), (7, v7)] [.ref as0] h Q := by
  refine wp_alR (ins := .aload 5) (k := 5) (pc' := 323) ⟨rfl, rfl⟩ (Or.inl ⟨_, rfl, rfl, rfl⟩) rfl r5 ?_
  exact wp_ifn ⟨rfl, rfl⟩ rfl r5 (fun hc => by subst hc; exact wp_weak (re_sb_at rfl (re_sb_at rfl (re_sb_nil _))) (K1 rfl)) (fun bb hc => by subst hc; exact wp_weak (re_sb_at rfl (re_sb_at rfl (re_sb_at rfl (re_sb_nil _)))) (K2 bb rfl))
set_option maxRecDepth 20000 in
theorem B640_326 {SC : List Value} {d s : Nat} {h : re_H} {Q : Nat → Value → re_H → Prop} {a5 : Nat} {v6 : Value} (r6 : re_R v6) {v7 : Value} (r7 : re_R v7) {as0 : Nat}
    {xe1 : Int32} (e2 : nb_fd h a5 9 10 (.int xe1)) (K1 : ¬ xe1 = 0 → wp SC 640 d s 360 [] [.ref as0] h Q) (K2 : xe1 = 0 → wp SC 640 d s 334 [(6, v6), (7, v7)] [.ref as0] h Q) : wp SC 640 d s 326 [(5, .ref a5), (6, v6), (7, v7)] [.ref as0] h Q := by
  refine wp_run 1 (pc' := 328) (lv' := [(5, .ref a5), (6, v6), (7, v7)]) (st' := [.ref a5, .ref as0]) rfl ?_
  obtain ⟨w2, e2a, e2b⟩ := e2
  refine wp_gf ⟨rfl, rfl⟩ rfl e2a e2b ?_
  exact wp_if ⟨rfl, rfl⟩ rfl (fun hc => wp_weak (re_sb_nil _) (K1 (ic1_ne hc))) (fun hc => wp_weak (re_sb_at rfl (re_sb_at rfl (re_sb_nil _))) (K2 (ic0_ne hc)))
set_option maxRecDepth 20000 in
theorem B640_334 {SC : List Value} {d s : Nat} {h : re_H} {Q : Nat → Value → re_H → Prop} {v6 : Value} (r6 : re_R v6) {v7 : Value} (r7 : re_R v7) {as0 : Nat}
    (K1 : v6 = .null → wp SC 640 d s 347 [(7, v7)] [.ref as0] h Q) (K2 : ∀ b1, v6 = .ref b1 → wp SC 640 d s 339 [(6, .ref b1), (7, v7)] [.ref as0] h Q) : wp SC 640 d s 334 [(6, v6), (7, v7)] [.ref as0] h Q := by
  refine wp_alR (ins := .aload 6) (k := 6) (pc' := 336) ⟨rfl, rfl⟩ (Or.inl ⟨_, rfl, rfl, rfl⟩) rfl r6 ?_
  exact wp_ifn ⟨rfl, rfl⟩ rfl r6 (fun hc => by subst hc; exact wp_weak (re_sb_at rfl (re_sb_nil _)) (K1 rfl)) (fun bb hc => by subst hc; exact wp_weak (re_sb_at rfl (re_sb_at rfl (re_sb_nil _))) (K2 bb rfl))
set_option maxRecDepth 20000 in
theorem B640_339 {SC : List Value} {d s : Nat} {h : re_H} {Q : Nat → Value → re_H → Prop} {a6 : Nat} {v7 : Value} (r7 : re_R v7) {as0 : Nat}
    {xe1 : Int32} (e2 : nb_fd h a6 9 10 (.int xe1)) (K1 : ¬ xe1 = 0 → wp SC 640 d s 360 [] [.ref as0] h Q) (K2 : xe1 = 0 → wp SC 640 d s 347 [(7, v7)] [.ref as0] h Q) : wp SC 640 d s 339 [(6, .ref a6), (7, v7)] [.ref as0] h Q := by
  refine wp_run 1 (pc' := 341) (lv' := [(6, .ref a6), (7, v7)]) (st' := [.ref a6, .ref as0]) rfl ?_
  obtain ⟨w2, e2a, e2b⟩ := e2
  refine wp_gf ⟨rfl, rfl⟩ rfl e2a e2b ?_
  exact wp_if ⟨rfl, rfl⟩ rfl (fun hc => wp_weak (re_sb_nil _) (K1 (ic1_ne hc))) (fun hc => wp_weak (re_sb_at rfl (re_sb_nil _)) (K2 (ic0_ne hc)))
set_option maxRecDepth 20000 in
theorem B640_347 {SC : List Value} {d s : Nat} {h : re_H} {Q : Nat → Value → re_H → Prop} {v7 : Value} (r7 : re_R v7) {as0 : Nat}
    (K1 : v7 = .null → wp SC 640 d s 364 [] [.ref as0] h Q) (K2 : ∀ b1, v7 = .ref b1 → wp SC 640 d s 352 [(7, .ref b1)] [.ref as0] h Q) : wp SC 640 d s 347 [(7, v7)] [.ref as0] h Q := by
  refine wp_alR (ins := .aload 7) (k := 7) (pc' := 349) ⟨rfl, rfl⟩ (Or.inl ⟨_, rfl, rfl, rfl⟩) rfl r7 ?_
  exact wp_ifn ⟨rfl, rfl⟩ rfl r7 (fun hc => by subst hc; exact wp_weak (re_sb_nil _) (K1 rfl)) (fun bb hc => by subst hc; exact wp_weak (re_sb_at rfl (re_sb_nil _)) (K2 bb rfl))
set_option maxRecDepth 20000 in
theorem B640_352 {SC : List Value} {d s : Nat} {h : re_H} {Q : Nat → Value → re_H → Prop} {a7 : Nat} {as0 : Nat}
    {xe1 : Int32} (e2 : nb_fd h a7 9 10 (.int xe1)) (K1 : xe1 = 0 → wp SC 640 d s 364 [] [.ref as0] h Q) (K2 : ¬ xe1 = 0 → wp SC 640 d s 360 [] [.ref as0] h Q) : wp SC 640 d s 352 [(7, .ref a7)] [.ref as0] h Q := by
  refine wp_run 1 (pc' := 354) (lv' := [(7, .ref a7)]) (st' := [.ref a7, .ref as0]) rfl ?_
  obtain ⟨w2, e2a, e2b⟩ := e2
  refine wp_gf ⟨rfl, rfl⟩ rfl e2a e2b ?_
  exact wp_if ⟨rfl, rfl⟩ rfl (fun hc => wp_weak (re_sb_nil _) (K1 (ic1_eq hc))) (fun hc => wp_weak (re_sb_nil _) (K2 (ic0_eq hc)))
set_option maxRecDepth 20000 in
theorem B640_360 {SC : List Value} {d s : Nat} {h : re_H} {Q : Nat → Value → re_H → Prop} {as0 : Nat}
    (K : wp SC 640 d s 365 [] [.int (i32 1), .ref as0] h Q) : wp SC 640 d s 360 [] [.ref as0] h Q := by
  refine wp_run 2 (pc' := 365) (lv' := []) (st' := [.int (i32 1), .ref as0]) rfl ?_
  exact wp_weak (re_sb_nil _) K
set_option maxRecDepth 20000 in
theorem B640_364 {SC : List Value} {d s : Nat} {h : re_H} {Q : Nat → Value → re_H → Prop} {as0 : Nat}
    (K : wp SC 640 d s 365 [] [.int (i32 0), .ref as0] h Q) : wp SC 640 d s 364 [] [.ref as0] h Q := by
  refine wp_run 1 (pc' := 365) (lv' := []) (st' := [.int (i32 0), .ref as0]) rfl ?_
  exact wp_weak (re_sb_nil _) K
set_option maxRecDepth 20000 in
theorem B640_365 {SC : List Value} {d s : Nat} {h : re_H} {Q : Nat → Value → re_H → Prop} {xs0 : Int32} {as1 : Nat}
    {w : List Value} (e : re_hg h as1 = some (9, w)) (hk : 10 < w.length) (hz : xs0 = 0 ∨ xs0 = 1) (K : wp SC 640 d s 368 [] [] (re_hw h as1 (9, w.set 10 (.int xs0))) Q) : wp SC 640 d s 365 [] [.int xs0, .ref as1] h Q := by
  exact wp_pf ⟨rfl, rfl⟩ rfl (Or.inr ⟨rfl, rfl⟩) e hk (fit_z hz) (wp_weak (re_sb_nil _) K)
set_option maxRecDepth 20000 in
theorem B640_368 {SC : List Value} {d s : Nat} {h : re_H} {Q : Nat → Value → re_H → Prop} 
    (K : Q 0 .null h) : wp SC 640 d s 368 [] [] h Q := by
  exact wp_retv ⟨rfl, rfl⟩ rfl K
theorem B641_0 {SC : List Value} {d s : Nat} {h : re_H} {Q : Nat → Value → re_H → Prop} {v0 : Value} (r0 : re_R v0) {v1 : Value} (r1 : re_R v1)
    (K1 : ¬ v0 = v1 → wp SC 641 d s 7 [(0, v0), (1, v1)] [] h Q) (K2 : v0 = v1 → wp SC 641 d s 5 [] [] h Q) : wp SC 641 d s 0 [(0, v0), (1, v1)] [] h Q := by
  refine wp_alR (ins := .aload_n 0) (k := 0) (pc' := 1) ⟨rfl, rfl⟩ (Or.inr ⟨_, rfl, rfl, rfl⟩) rfl r0 ?_
  refine wp_alR (ins := .aload_n 1) (k := 1) (pc' := 2) ⟨rfl, rfl⟩ (Or.inr ⟨_, rfl, rfl, rfl⟩) rfl r1 ?_
  exact wp_acne ⟨rfl, rfl⟩ rfl r0 r1 (fun hc => wp_weak (re_sb_at rfl (re_sb_at rfl (re_sb_nil _))) (K1 hc)) (fun hc => wp_weak (re_sb_nil _) (K2 hc))
theorem B641_5 {SC : List Value} {d s : Nat} {h : re_H} {Q : Nat → Value → re_H → Prop} 
    (K : Q 1 (.int (i32 1)) h) : wp SC 641 d s 5 [] [] h Q := by
  refine wp_run 1 (pc' := 6) (lv' := []) (st' := [.int (i32 1)]) rfl ?_
  exact wp_retz ⟨rfl, rfl⟩ rfl (Or.inr rfl) K
theorem B641_7 {SC : List Value} {d s : Nat} {h : re_H} {Q : Nat → Value → re_H → Prop} {v0 : Value} (r0 : re_R v0) {v1 : Value} (r1 : re_R v1)
    (K1 : v0 = .null → wp SC 641 d s 15 [] [] h Q) (K2 : ∀ b1, v0 = .ref b1 → wp SC 641 d s 11 [(0, .ref b1), (1, v1)] [] h Q) : wp SC 641 d s 7 [(0, v0), (1, v1)] [] h Q := by
  refine wp_alR (ins := .aload_n 0) (k := 0) (pc' := 8) ⟨rfl, rfl⟩ (Or.inr ⟨_, rfl, rfl, rfl⟩) rfl r0 ?_
  exact wp_ifn ⟨rfl, rfl⟩ rfl r0 (fun hc => by subst hc; exact wp_weak (re_sb_nil _) (K1 rfl)) (fun bb hc => by subst hc; exact wp_weak (re_sb_at rfl (re_sb_at rfl (re_sb_nil _))) (K2 bb rfl))
theorem B641_11 {SC : List Value} {d s : Nat} {h : re_H} {Q : Nat → Value → re_H → Prop} {a0 : Nat} {v1 : Value} (r1 : re_R v1)
    (K1 : v1 = .null → wp SC 641 d s 15 [] [] h Q) (K2 : ∀ b1, v1 = .ref b1 → wp SC 641 d s 17 [(0, .ref a0), (1, .ref b1)] [] h Q) : wp SC 641 d s 11 [(0, .ref a0), (1, v1)] [] h Q := by
  refine wp_alR (ins := .aload_n 1) (k := 1) (pc' := 12) ⟨rfl, rfl⟩ (Or.inr ⟨_, rfl, rfl, rfl⟩) rfl r1 ?_
  exact wp_ifnn ⟨rfl, rfl⟩ rfl r1 (fun bb hc => by subst hc; exact wp_weak (re_sb_at rfl (re_sb_at rfl (re_sb_nil _))) (K2 bb rfl)) (fun hc => by subst hc; exact wp_weak (re_sb_nil _) (K1 rfl))
theorem B641_15 {SC : List Value} {d s : Nat} {h : re_H} {Q : Nat → Value → re_H → Prop} 
    (K : Q 1 (.int (i32 0)) h) : wp SC 641 d s 15 [] [] h Q := by
  refine wp_run 1 (pc' := 16) (lv' := []) (st' := [.int (i32 0)]) rfl ?_
  exact wp_retz ⟨rfl, rfl⟩ rfl (Or.inl rfl) K
theorem B641_17 {SC : List Value} {d s : Nat} {h : re_H} {Q : Nat → Value → re_H → Prop} {a0 : Nat} {a1 : Nat}
    {xe1 : Int32} (e2 : nb_fd h a0 9 0 (.int xe1)) {xe3 : Int32} (e4 : nb_fd h a1 9 0 (.int xe3)) (K1 : ¬ xe1 = xe3 → wp SC 641 d s 97 [] [] h Q) (K2 : xe1 = xe3 → wp SC 641 d s 28 [(0, .ref a0), (1, .ref a1)] [] h Q) : wp SC 641 d s 17 [(0, .ref a0), (1, .ref a1)] [] h Q := by
  refine wp_run 1 (pc' := 18) (lv' := [(0, .ref a0), (1, .ref a1)]) (st' := [.ref a0]) rfl ?_
  obtain ⟨w2, e2a, e2b⟩ := e2
  refine wp_gf ⟨rfl, rfl⟩ rfl e2a e2b ?_
  refine wp_run 1 (pc' := 22) (lv' := [(0, .ref a0), (1, .ref a1)]) (st' := [.ref a1, .int xe1]) rfl ?_
  obtain ⟨w4, e4a, e4b⟩ := e4
  refine wp_gf ⟨rfl, rfl⟩ rfl e4a e4b ?_
  exact wp_cmp ⟨rfl, rfl⟩ rfl (fun hc => wp_weak (re_sb_nil _) (K1 (ic1_ne hc))) (fun hc => wp_weak (re_sb_at rfl (re_sb_at rfl (re_sb_nil _))) (K2 (ic0_ne hc)))
theorem B641_28 {SC : List Value} {d s : Nat} {h : re_H} {Q : Nat → Value → re_H → Prop} {a0 : Nat} {a1 : Nat}
    {xe1 : Int32} (e2 : nb_fd h a0 9 1 (.int xe1)) {xe3 : Int32} (e4 : nb_fd h a1 9 1 (.int xe3)) (K1 : ¬ xe1 = xe3 → wp SC 641 d s 97 [] [] h Q) (K2 : xe1 = xe3 → wp SC 641 d s 39 [(0, .ref a0), (1, .ref a1)] [] h Q) : wp SC 641 d s 28 [(0, .ref a0), (1, .ref a1)] [] h Q := by
  refine wp_run 1 (pc' := 29) (lv' := [(0, .ref a0), (1, .ref a1)]) (st' := [.ref a0]) rfl ?_
  obtain ⟨w2, e2a, e2b⟩ := e2
  refine wp_gf ⟨rfl, rfl⟩ rfl e2a e2b ?_
  refine wp_run 1 (pc' := 33) (lv' := [(0, .ref a0), (1, .ref a1)]) (st' := [.ref a1, .int xe1]) rfl ?_
  obtain ⟨w4, e4a, e4b⟩ := e4
  refine wp_gf ⟨rfl, rfl⟩ rfl e4a e4b ?_
  exact wp_cmp ⟨rfl, rfl⟩ rfl (fun hc => wp_weak (re_sb_nil _) (K1 (ic1_ne hc))) (fun hc => wp_weak (re_sb_at rfl (re_sb_at rfl (re_sb_nil _))) (K2 (ic0_ne hc)))
theorem B641_39 {SC : List Value} {d s : Nat} {h : re_H} {Q : Nat → Value → re_H → Prop} {a0 : Nat} {a1 : Nat}
    {le1 : Int64} (e2 : nb_fd h a0 9 2 (.long le1)) {le3 : Int64} (e4 : nb_fd h a1 9 2 (.long le3)) (K1 : ¬ le1 = le3 → wp SC 641 d s 97 [] [] h Q) (K2 : le1 = le3 → wp SC 641 d s 51 [(0, .ref a0), (1, .ref a1)] [] h Q) : wp SC 641 d s 39 [(0, .ref a0), (1, .ref a1)] [] h Q := by
  refine wp_run 1 (pc' := 40) (lv' := [(0, .ref a0), (1, .ref a1)]) (st' := [.ref a0]) rfl ?_
  obtain ⟨w2, e2a, e2b⟩ := e2
  refine wp_gf ⟨rfl, rfl⟩ rfl e2a e2b ?_
  refine wp_run 1 (pc' := 44) (lv' := [(0, .ref a0), (1, .ref a1)]) (st' := [.ref a1, .long le1]) rfl ?_
  obtain ⟨w4, e4a, e4b⟩ := e4
  refine wp_gf ⟨rfl, rfl⟩ rfl e4a e4b ?_
  refine wp_run 1 (pc' := 48) (lv' := [(0, .ref a0), (1, .ref a1)]) (st' := [.int (lg_cmp le1 le3)]) rfl ?_
  exact wp_if ⟨rfl, rfl⟩ rfl (fun hc => wp_weak (re_sb_nil _) (K1 (lc1_ne hc))) (fun hc => wp_weak (re_sb_at rfl (re_sb_at rfl (re_sb_nil _))) (K2 (lc0_ne hc)))
theorem B641_51 {SC : List Value} {d s : Nat} {h : re_H} {Q : Nat → Value → re_H → Prop} {a0 : Nat} {a1 : Nat}
    {ve1 : Value} (re1 : re_R ve1) (e2 : nb_fd h a0 9 3 (ve1)) {ve3 : Value} (re3 : re_R ve3) (e4 : nb_fd h a1 9 3 (ve3)) (K : wp SC 641 d 0 0 [(0, ve1), (1, ve3)] [] h (wp_ret SC 641 (d + 1) s 62 [(0, .ref a0), (1, .ref a1)] [] Q)) : wp SC 641 (d + 1) s 51 [(0, .ref a0), (1, .ref a1)] [] h Q := by
  refine wp_run 1 (pc' := 52) (lv' := [(0, .ref a0), (1, .ref a1)]) (st' := [.ref a0]) rfl ?_
  obtain ⟨w2, e2a, e2b⟩ := e2
  refine wp_gf ⟨rfl, rfl⟩ rfl e2a e2b ?_
  refine wp_run 1 (pc' := 56) (lv' := [(0, .ref a0), (1, .ref a1)]) (st' := [.ref a1, ve1]) rfl ?_
  obtain ⟨w4, e4a, e4b⟩ := e4
  refine wp_gf ⟨rfl, rfl⟩ rfl e4a e4b ?_
  have eA : lv_args 0 ([ve3, ve1].reverse) = [(0, ve1), (1, ve3)] := by simp [lv_args, vc_i, vc_l, vc_r, vc_n, vc_a, re_R_cat re3, re_R_cat re1]
  refine wp_callS (ar := [ve3, ve1]) (rest := []) (s1 := 0) (s2 := s) (d' := d) ⟨rfl, rfl⟩ rfl (Or.inl rfl) rfl (by simp [re_cat, vc_i, vc_l, vc_r, vc_n, vc_a]) (by rw [show re_cat ([ve3, ve1].reverse) = 2 from by simp [re_cat, vc_i, vc_l, vc_r, vc_n, vc_a, re_R_cat re3, re_R_cat re1]]; decide) (by decide) rfl rfl (Nat.le_of_eq (Nat.zero_add s)) ?_
  rw [eA]
  exact wp_mono K (fun k v h' z => wp_ret_weak (re_sb_at rfl (re_sb_at rfl (re_sb_nil _))) z)
theorem B641_62 {SC : List Value} {d s : Nat} {h : re_H} {Q : Nat → Value → re_H → Prop} {a0 : Nat} {a1 : Nat} {xs0 : Int32}
    (K1 : xs0 = 0 → wp SC 641 d s 97 [] [] h Q) (K2 : ¬ xs0 = 0 → wp SC 641 d s 65 [(0, .ref a0), (1, .ref a1)] [] h Q) : wp SC 641 d s 62 [(0, .ref a0), (1, .ref a1)] [.int xs0] h Q := by
  exact wp_if ⟨rfl, rfl⟩ rfl (fun hc => wp_weak (re_sb_nil _) (K1 (ic1_eq hc))) (fun hc => wp_weak (re_sb_at rfl (re_sb_at rfl (re_sb_nil _))) (K2 (ic0_eq hc)))
theorem B641_65 {SC : List Value} {d s : Nat} {h : re_H} {Q : Nat → Value → re_H → Prop} {a0 : Nat} {a1 : Nat}
    {ve1 : Value} (re1 : re_R ve1) (e2 : nb_fd h a0 9 4 (ve1)) {ve3 : Value} (re3 : re_R ve3) (e4 : nb_fd h a1 9 4 (ve3)) (K : wp SC 641 d 0 0 [(0, ve1), (1, ve3)] [] h (wp_ret SC 641 (d + 1) s 76 [(0, .ref a0), (1, .ref a1)] [] Q)) : wp SC 641 (d + 1) s 65 [(0, .ref a0), (1, .ref a1)] [] h Q := by
  refine wp_run 1 (pc' := 66) (lv' := [(0, .ref a0), (1, .ref a1)]) (st' := [.ref a0]) rfl ?_
  obtain ⟨w2, e2a, e2b⟩ := e2
  refine wp_gf ⟨rfl, rfl⟩ rfl e2a e2b ?_
  refine wp_run 1 (pc' := 70) (lv' := [(0, .ref a0), (1, .ref a1)]) (st' := [.ref a1, ve1]) rfl ?_
  obtain ⟨w4, e4a, e4b⟩ := e4
  refine wp_gf ⟨rfl, rfl⟩ rfl e4a e4b ?_
  have eA : lv_args 0 ([ve3, ve1].reverse) = [(0, ve1), (1, ve3)] := by simp [lv_args, vc_i, vc_l, vc_r, vc_n, vc_a, re_R_cat re3, re_R_cat re1]
  refine wp_callS (ar := [ve3, ve1]) (rest := []) (s1 := 0) (s2 := s) (d' := d) ⟨rfl, rfl⟩ rfl (Or.inl rfl) rfl (by simp [re_cat, vc_i, vc_l, vc_r, vc_n, vc_a]) (by rw [show re_cat ([ve3, ve1].reverse) = 2 from by simp [re_cat, vc_i, vc_l, vc_r, vc_n, vc_a, re_R_cat re3, re_R_cat re1]]; decide) (by decide) rfl rfl (Nat.le_of_eq (Nat.zero_add s)) ?_
  rw [eA]
  exact wp_mono K (fun k v h' z => wp_ret_weak (re_sb_at rfl (re_sb_at rfl (re_sb_nil _))) z)
theorem B641_76 {SC : List Value} {d s : Nat} {h : re_H} {Q : Nat → Value → re_H → Prop} {a0 : Nat} {a1 : Nat} {xs0 : Int32}
    (K1 : xs0 = 0 → wp SC 641 d s 97 [] [] h Q) (K2 : ¬ xs0 = 0 → wp SC 641 d s 79 [(0, .ref a0), (1, .ref a1)] [] h Q) : wp SC 641 d s 76 [(0, .ref a0), (1, .ref a1)] [.int xs0] h Q := by
  exact wp_if ⟨rfl, rfl⟩ rfl (fun hc => wp_weak (re_sb_nil _) (K1 (ic1_eq hc))) (fun hc => wp_weak (re_sb_at rfl (re_sb_at rfl (re_sb_nil _))) (K2 (ic0_eq hc)))
theorem B641_79 {SC : List Value} {d s : Nat} {h : re_H} {Q : Nat → Value → re_H → Prop} {a0 : Nat} {a1 : Nat}
    {ve1 : Value} (re1 : re_R ve1) (e2 : nb_fd h a0 9 5 (ve1)) {ve3 : Value} (re3 : re_R ve3) (e4 : nb_fd h a1 9 5 (ve3)) (K : wp SC 641 d 0 0 [(0, ve1), (1, ve3)] [] h (wp_ret SC 641 (d + 1) s 90 [] [] Q)) : wp SC 641 (d + 1) s 79 [(0, .ref a0), (1, .ref a1)] [] h Q := by
  refine wp_run 1 (pc' := 80) (lv' := [(0, .ref a0), (1, .ref a1)]) (st' := [.ref a0]) rfl ?_
  obtain ⟨w2, e2a, e2b⟩ := e2
  refine wp_gf ⟨rfl, rfl⟩ rfl e2a e2b ?_
  refine wp_run 1 (pc' := 84) (lv' := [(0, .ref a0), (1, .ref a1)]) (st' := [.ref a1, ve1]) rfl ?_
  obtain ⟨w4, e4a, e4b⟩ := e4
  refine wp_gf ⟨rfl, rfl⟩ rfl e4a e4b ?_
  have eA : lv_args 0 ([ve3, ve1].reverse) = [(0, ve1), (1, ve3)] := by simp [lv_args, vc_i, vc_l, vc_r, vc_n, vc_a, re_R_cat re3, re_R_cat re1]
  refine wp_callS (ar := [ve3, ve1]) (rest := []) (s1 := 0) (s2 := s) (d' := d) ⟨rfl, rfl⟩ rfl (Or.inl rfl) rfl (by simp [re_cat, vc_i, vc_l, vc_r, vc_n, vc_a]) (by rw [show re_cat ([ve3, ve1].reverse) = 2 from by simp [re_cat, vc_i, vc_l, vc_r, vc_n, vc_a, re_R_cat re3, re_R_cat re1]]; decide) (by decide) rfl rfl (Nat.le_of_eq (Nat.zero_add s)) ?_
  rw [eA]
  exact wp_mono K (fun k v h' z => wp_ret_weak (re_sb_nil _) z)
theorem B641_90 {SC : List Value} {d s : Nat} {h : re_H} {Q : Nat → Value → re_H → Prop} {xs0 : Int32}
    (K1 : xs0 = 0 → wp SC 641 d s 97 [] [] h Q) (K2 : ¬ xs0 = 0 → wp SC 641 d s 93 [] [] h Q) : wp SC 641 d s 90 [] [.int xs0] h Q := by
  exact wp_if ⟨rfl, rfl⟩ rfl (fun hc => wp_weak (re_sb_nil _) (K1 (ic1_eq hc))) (fun hc => wp_weak (re_sb_nil _) (K2 (ic0_eq hc)))
theorem B641_93 {SC : List Value} {d s : Nat} {h : re_H} {Q : Nat → Value → re_H → Prop} 
    (K : wp SC 641 d s 98 [] [.int (i32 1)] h Q) : wp SC 641 d s 93 [] [] h Q := by
  refine wp_run 2 (pc' := 98) (lv' := []) (st' := [.int (i32 1)]) rfl ?_
  exact wp_weak (re_sb_nil _) K
theorem B641_97 {SC : List Value} {d s : Nat} {h : re_H} {Q : Nat → Value → re_H → Prop} 
    (K : wp SC 641 d s 98 [] [.int (i32 0)] h Q) : wp SC 641 d s 97 [] [] h Q := by
  refine wp_run 1 (pc' := 98) (lv' := []) (st' := [.int (i32 0)]) rfl ?_
  exact wp_weak (re_sb_nil _) K
theorem B641_98 {SC : List Value} {d s : Nat} {h : re_H} {Q : Nat → Value → re_H → Prop} {xs0 : Int32}
    (hz : xs0 = 0 ∨ xs0 = 1) (K : Q 1 (.int xs0) h) : wp SC 641 d s 98 [] [.int xs0] h Q := by
  exact wp_retz ⟨rfl, rfl⟩ rfl hz K
theorem B642_0 {SC : List Value} {d s : Nat} {h : re_H} {Q : Nat → Value → re_H → Prop} {v0 : Value} (r0 : re_R v0) {x1 : Int32}
    (K1 : v0 = .null → wp SC 642 d s 12 [] [] h Q) (K2 : ∀ b1, v0 = .ref b1 → wp SC 642 d s 4 [(0, .ref b1), (1, .int x1)] [] h Q) : wp SC 642 d s 0 [(0, v0), (1, .int x1)] [] h Q := by
  refine wp_alR (ins := .aload_n 0) (k := 0) (pc' := 1) ⟨rfl, rfl⟩ (Or.inr ⟨_, rfl, rfl, rfl⟩) rfl r0 ?_
  exact wp_ifn ⟨rfl, rfl⟩ rfl r0 (fun hc => by subst hc; exact wp_weak (re_sb_nil _) (K1 rfl)) (fun bb hc => by subst hc; exact wp_weak (re_sb_at rfl (re_sb_at rfl (re_sb_nil _))) (K2 bb rfl))
theorem B642_4 {SC : List Value} {d s : Nat} {h : re_H} {Q : Nat → Value → re_H → Prop} {a0 : Nat} {x1 : Int32}
    {c : Nat} {w : List Value} (eg : re_hg h a0 = some (c, w)) (ec : c = 9) (K : wp SC 643 d 0 0 [(0, .ref a0), (1, .int x1)] [] h (wp_ret SC 642 (d + 1) s 9 [(0, .ref a0), (1, .int x1)] [] Q)) : wp SC 642 (d + 1) s 4 [(0, .ref a0), (1, .int x1)] [] h Q := by
  refine wp_run 2 (pc' := 6) (lv' := [(0, .ref a0), (1, .int x1)]) (st' := [.int x1, .ref a0]) rfl ?_
  have eA : lv_args 0 (.ref a0 :: [.int x1].reverse) = [(0, .ref a0), (1, .int x1)] := by simp [lv_args, vc_i, vc_l, vc_r, vc_n, vc_a]
  refine wp_callV (ar := [.int x1]) (rest := []) (s1 := 0) (s2 := s) (d' := d) ⟨rfl, rfl⟩ rfl (Or.inl rfl)  (by simp [re_cat, vc_i, vc_l, vc_r, vc_n, vc_a]) (by rw [show re_cat (.ref a0 :: [.int x1].reverse) = 2 from by simp [re_cat, vc_i, vc_l, vc_r, vc_n, vc_a]]; decide) (by decide) rfl eg ec rfl (Nat.le_of_eq (Nat.zero_add s)) ?_
  rw [eA]
  exact wp_mono K (fun k v h' z => wp_ret_weak (re_sb_at rfl (re_sb_at rfl (re_sb_nil _))) z)
theorem B642_9 {SC : List Value} {d s : Nat} {h : re_H} {Q : Nat → Value → re_H → Prop} {a0 : Nat} {x1 : Int32} {xs0 : Int32}
    (K1 : ¬ xs0 = 0 → wp SC 642 d s 14 [(0, .ref a0), (1, .int x1)] [] h Q) (K2 : xs0 = 0 → wp SC 642 d s 12 [] [] h Q) : wp SC 642 d s 9 [(0, .ref a0), (1, .int x1)] [.int xs0] h Q := by
  exact wp_if ⟨rfl, rfl⟩ rfl (fun hc => wp_weak (re_sb_at rfl (re_sb_at rfl (re_sb_nil _))) (K1 (ic1_ne hc))) (fun hc => wp_weak (re_sb_nil _) (K2 (ic0_ne hc)))
theorem B642_12 {SC : List Value} {d s : Nat} {h : re_H} {Q : Nat → Value → re_H → Prop} 
    (K : Q 1 (.int (i32 0)) h) : wp SC 642 d s 12 [] [] h Q := by
  refine wp_run 1 (pc' := 13) (lv' := []) (st' := [.int (i32 0)]) rfl ?_
  exact wp_reti ⟨rfl, rfl⟩ rfl K
theorem B642_14 {SC : List Value} {d s : Nat} {h : re_H} {Q : Nat → Value → re_H → Prop} {a0 : Nat} {x1 : Int32}
    {xe1 : Int32} (e2 : nb_fd h a0 9 0 (.int xe1)) (K1 : ¬ xe1 = (i32 1) → wp SC 642 d s 24 [(0, .ref a0), (1, .int x1)] [] h Q) (K2 : xe1 = (i32 1) → wp SC 642 d s 22 [] [] h Q) : wp SC 642 d s 14 [(0, .ref a0), (1, .int x1)] [] h Q := by
  refine wp_run 1 (pc' := 15) (lv' := [(0, .ref a0), (1, .int x1)]) (st' := [.ref a0]) rfl ?_
  obtain ⟨w2, e2a, e2b⟩ := e2
  refine wp_gf ⟨rfl, rfl⟩ rfl e2a e2b ?_
  refine wp_run 1 (pc' := 19) (lv' := [(0, .ref a0), (1, .int x1)]) (st' := [.int (i32 1), .int xe1]) rfl ?_
  exact wp_cmp ⟨rfl, rfl⟩ rfl (fun hc => wp_weak (re_sb_at rfl (re_sb_at rfl (re_sb_nil _))) (K1 (ic1_ne hc))) (fun hc => wp_weak (re_sb_nil _) (K2 (ic0_ne hc)))
theorem B642_22 {SC : List Value} {d s : Nat} {h : re_H} {Q : Nat → Value → re_H → Prop} 
    (K : Q 1 (.int (i32 1)) h) : wp SC 642 d s 22 [] [] h Q := by
  refine wp_run 1 (pc' := 23) (lv' := []) (st' := [.int (i32 1)]) rfl ?_
  exact wp_reti ⟨rfl, rfl⟩ rfl K
theorem B642_24 {SC : List Value} {d s : Nat} {h : re_H} {Q : Nat → Value → re_H → Prop} {a0 : Nat} {x1 : Int32}
    {xe1 : Int32} (e2 : nb_fd h a0 9 0 (.int xe1)) (K1 : ¬ xe1 = (i32 6) → wp SC 642 d s 45 [(0, .ref a0), (1, .int x1)] [] h Q) (K2 : xe1 = (i32 6) → wp SC 642 d s 33 [(0, .ref a0), (1, .int x1)] [] h Q) : wp SC 642 d s 24 [(0, .ref a0), (1, .int x1)] [] h Q := by
  refine wp_run 1 (pc' := 25) (lv' := [(0, .ref a0), (1, .int x1)]) (st' := [.ref a0]) rfl ?_
  obtain ⟨w2, e2a, e2b⟩ := e2
  refine wp_gf ⟨rfl, rfl⟩ rfl e2a e2b ?_
  refine wp_bi (x := (i32 6)) ⟨rfl, rfl⟩ (by decide) ?_
  exact wp_cmp ⟨rfl, rfl⟩ rfl (fun hc => wp_weak (re_sb_at rfl (re_sb_at rfl (re_sb_nil _))) (K1 (ic1_ne hc))) (fun hc => wp_weak (re_sb_at rfl (re_sb_at rfl (re_sb_nil _))) (K2 (ic0_ne hc)))
theorem B642_33 {SC : List Value} {d s : Nat} {h : re_H} {Q : Nat → Value → re_H → Prop} {a0 : Nat} {x1 : Int32}
    {xe1 : Int32} (e2 : nb_fd h a0 9 1 (.int xe1)) (K1 : ¬ xe1 = x1 → wp SC 642 d s 45 [(0, .ref a0), (1, .int x1)] [] h Q) (K2 : xe1 = x1 → wp SC 642 d s 41 [(0, .ref a0), (1, .int x1)] [] h Q) : wp SC 642 d s 33 [(0, .ref a0), (1, .int x1)] [] h Q := by
  refine wp_run 1 (pc' := 34) (lv' := [(0, .ref a0), (1, .int x1)]) (st' := [.ref a0]) rfl ?_
  obtain ⟨w2, e2a, e2b⟩ := e2
  refine wp_gf ⟨rfl, rfl⟩ rfl e2a e2b ?_
  refine wp_run 1 (pc' := 38) (lv' := [(0, .ref a0), (1, .int x1)]) (st' := [.int x1, .int xe1]) rfl ?_
  exact wp_cmp ⟨rfl, rfl⟩ rfl (fun hc => wp_weak (re_sb_at rfl (re_sb_at rfl (re_sb_nil _))) (K1 (ic1_ne hc))) (fun hc => wp_weak (re_sb_at rfl (re_sb_at rfl (re_sb_nil _))) (K2 (ic0_ne hc)))
theorem B642_41 {SC : List Value} {d s : Nat} {h : re_H} {Q : Nat → Value → re_H → Prop} {a0 : Nat} {x1 : Int32}
    (K : wp SC 642 d s 46 [(0, .ref a0), (1, .int x1)] [.int (i32 1)] h Q) : wp SC 642 d s 41 [(0, .ref a0), (1, .int x1)] [] h Q := by
  refine wp_run 2 (pc' := 46) (lv' := [(0, .ref a0), (1, .int x1)]) (st' := [.int (i32 1)]) rfl ?_
  exact wp_weak (re_sb_at rfl (re_sb_at rfl (re_sb_nil _))) K
theorem B642_45 {SC : List Value} {d s : Nat} {h : re_H} {Q : Nat → Value → re_H → Prop} {a0 : Nat} {x1 : Int32}
    (K : wp SC 642 d s 46 [(0, .ref a0), (1, .int x1)] [.int (i32 0)] h Q) : wp SC 642 d s 45 [(0, .ref a0), (1, .int x1)] [] h Q := by
  refine wp_run 1 (pc' := 46) (lv' := [(0, .ref a0), (1, .int x1)]) (st' := [.int (i32 0)]) rfl ?_
  exact wp_weak (re_sb_at rfl (re_sb_at rfl (re_sb_nil _))) K
theorem B642_46 {SC : List Value} {d s : Nat} {h : re_H} {Q : Nat → Value → re_H → Prop} {a0 : Nat} {x1 : Int32} {xs0 : Int32}
    {ve1 : Value} (re1 : re_R ve1) (e2 : nb_fd h a0 9 3 (ve1)) (K : wp SC 642 d 0 0 [(0, ve1), (1, .int x1)] [] h (wp_ret SC 642 (d + 1) s 55 [(0, .ref a0), (1, .int x1), (2, .int xs0)] [] Q)) : wp SC 642 (d + 1) s 46 [(0, .ref a0), (1, .int x1)] [.int xs0] h Q := by
  refine wp_run 2 (pc' := 48) (lv' := [(2, .int xs0), (0, .ref a0), (1, .int x1)]) (st' := [.ref a0]) rfl ?_
  obtain ⟨w2, e2a, e2b⟩ := e2
  refine wp_gf ⟨rfl, rfl⟩ rfl e2a e2b ?_
  refine wp_run 1 (pc' := 52) (lv' := [(2, .int xs0), (0, .ref a0), (1, .int x1)]) (st' := [.int x1, ve1]) rfl ?_
  have eA : lv_args 0 ([.int x1, ve1].reverse) = [(0, ve1), (1, .int x1)] := by simp [lv_args, vc_i, vc_l, vc_r, vc_n, vc_a, re_R_cat re1]
  refine wp_callS (ar := [.int x1, ve1]) (rest := []) (s1 := 0) (s2 := s) (d' := d) ⟨rfl, rfl⟩ rfl (Or.inl rfl) rfl (by simp [re_cat, vc_i, vc_l, vc_r, vc_n, vc_a]) (by rw [show re_cat ([.int x1, ve1].reverse) = 2 from by simp [re_cat, vc_i, vc_l, vc_r, vc_n, vc_a, re_R_cat re1]]; decide) (by decide) rfl rfl (Nat.le_of_eq (Nat.zero_add s)) ?_
  rw [eA]
  exact wp_mono K (fun k v h' z => wp_ret_weak (re_sb_at rfl (re_sb_at rfl (re_sb_at rfl (re_sb_nil _)))) z)
theorem B642_55 {SC : List Value} {d s : Nat} {h : re_H} {Q : Nat → Value → re_H → Prop} {a0 : Nat} {x1 : Int32} {x2 : Int32} {xs0 : Int32}
    (K1 : x2 = 0 → wp SC 642 d s 63 [(0, .ref a0), (1, .int x1)] [.int xs0] h Q) (K2 : ¬ x2 = 0 → wp SC 642 d s 59 [(0, .ref a0), (1, .int x1)] [.int xs0] h Q) : wp SC 642 d s 55 [(0, .ref a0), (1, .int x1), (2, .int x2)] [.int xs0] h Q := by
  refine wp_run 1 (pc' := 56) (lv' := [(0, .ref a0), (1, .int x1), (2, .int x2)]) (st' := [.int x2, .int xs0]) rfl ?_
  exact wp_if ⟨rfl, rfl⟩ rfl (fun hc => wp_weak (re_sb_at rfl (re_sb_at rfl (re_sb_nil _))) (K1 (ic1_eq hc))) (fun hc => wp_weak (re_sb_at rfl (re_sb_at rfl (re_sb_nil _))) (K2 (ic0_eq hc)))
theorem B642_59 {SC : List Value} {d s : Nat} {h : re_H} {Q : Nat → Value → re_H → Prop} {a0 : Nat} {x1 : Int32} {xs0 : Int32}
    (K : wp SC 642 d s 71 [(0, .ref a0), (1, .int x1)] [.int (i32 0), .int xs0] h Q) : wp SC 642 d s 59 [(0, .ref a0), (1, .int x1)] [.int xs0] h Q := by
  refine wp_run 2 (pc' := 71) (lv' := [(0, .ref a0), (1, .int x1)]) (st' := [.int (i32 0), .int xs0]) rfl ?_
  exact wp_weak (re_sb_at rfl (re_sb_at rfl (re_sb_nil _))) K
theorem B642_63 {SC : List Value} {d s : Nat} {h : re_H} {Q : Nat → Value → re_H → Prop} {a0 : Nat} {x1 : Int32} {xs0 : Int32}
    {ve1 : Value} (re1 : re_R ve1) (e2 : nb_fd h a0 9 4 (ve1)) (K : wp SC 642 d 0 0 [(0, ve1), (1, .int x1)] [] h (wp_ret SC 642 (d + 1) s 71 [(0, .ref a0), (1, .int x1)] [.int xs0] Q)) : wp SC 642 (d + 1) s 63 [(0, .ref a0), (1, .int x1)] [.int xs0] h Q := by
  refine wp_run 1 (pc' := 64) (lv' := [(0, .ref a0), (1, .int x1)]) (st' := [.ref a0, .int xs0]) rfl ?_
  obtain ⟨w2, e2a, e2b⟩ := e2
  refine wp_gf ⟨rfl, rfl⟩ rfl e2a e2b ?_
  refine wp_run 1 (pc' := 68) (lv' := [(0, .ref a0), (1, .int x1)]) (st' := [.int x1, ve1, .int xs0]) rfl ?_
  have eA : lv_args 0 ([.int x1, ve1].reverse) = [(0, ve1), (1, .int x1)] := by simp [lv_args, vc_i, vc_l, vc_r, vc_n, vc_a, re_R_cat re1]
  refine wp_callS (ar := [.int x1, ve1]) (rest := [.int xs0]) (s1 := 0) (s2 := s) (d' := d) ⟨rfl, rfl⟩ rfl (Or.inl rfl) rfl (by simp [re_cat, vc_i, vc_l, vc_r, vc_n, vc_a]) (by rw [show re_cat ([.int x1, ve1].reverse) = 2 from by simp [re_cat, vc_i, vc_l, vc_r, vc_n, vc_a, re_R_cat re1]]; decide) (by decide) rfl rfl (Nat.le_of_eq (Nat.zero_add s)) ?_
  rw [eA]
  exact wp_mono K (fun k v h' z => wp_ret_weak (re_sb_at rfl (re_sb_at rfl (re_sb_nil _))) z)
theorem B642_71 {SC : List Value} {d s : Nat} {h : re_H} {Q : Nat → Value → re_H → Prop} {a0 : Nat} {x1 : Int32} {xs0 : Int32} {xs1 : Int32}
    {ve1 : Value} (re1 : re_R ve1) (e2 : nb_fd h a0 9 5 (ve1)) (K : wp SC 642 d 0 0 [(0, ve1), (1, .int x1)] [] h (wp_ret SC 642 (d + 1) s 80 [] [.int (xs1 + xs0)] Q)) : wp SC 642 (d + 1) s 71 [(0, .ref a0), (1, .int x1)] [.int xs0, .int xs1] h Q := by
  refine wp_run 2 (pc' := 73) (lv' := [(0, .ref a0), (1, .int x1)]) (st' := [.ref a0, .int (xs1 + xs0)]) rfl ?_
  obtain ⟨w2, e2a, e2b⟩ := e2
  refine wp_gf ⟨rfl, rfl⟩ rfl e2a e2b ?_
  refine wp_run 1 (pc' := 77) (lv' := [(0, .ref a0), (1, .int x1)]) (st' := [.int x1, ve1, .int (xs1 + xs0)]) rfl ?_
  have eA : lv_args 0 ([.int x1, ve1].reverse) = [(0, ve1), (1, .int x1)] := by simp [lv_args, vc_i, vc_l, vc_r, vc_n, vc_a, re_R_cat re1]
  refine wp_callS (ar := [.int x1, ve1]) (rest := [.int (xs1 + xs0)]) (s1 := 0) (s2 := s) (d' := d) ⟨rfl, rfl⟩ rfl (Or.inl rfl) rfl (by simp [re_cat, vc_i, vc_l, vc_r, vc_n, vc_a]) (by rw [show re_cat ([.int x1, ve1].reverse) = 2 from by simp [re_cat, vc_i, vc_l, vc_r, vc_n, vc_a, re_R_cat re1]]; decide) (by decide) rfl rfl (Nat.le_of_eq (Nat.zero_add s)) ?_
  rw [eA]
  exact wp_mono K (fun k v h' z => wp_ret_weak (re_sb_nil _) z)
theorem B642_80 {SC : List Value} {d s : Nat} {h : re_H} {Q : Nat → Value → re_H → Prop} {xs0 : Int32} {xs1 : Int32}
    (K : Q 1 (.int (xs1 + xs0)) h) : wp SC 642 d s 80 [] [.int xs0, .int xs1] h Q := by
  refine wp_run 1 (pc' := 81) (lv' := []) (st' := [.int (xs1 + xs0)]) rfl ?_
  exact wp_reti ⟨rfl, rfl⟩ rfl K
theorem B643_0 {SC : List Value} {d s : Nat} {h : re_H} {Q : Nat → Value → re_H → Prop} {a0 : Nat} {x1 : Int32}
    {xe1 : Int32} (e2 : nb_fd h a0 9 7 (.int xe1)) (K1 : ¬ ((xe1 >>> (x1 &&& 31)) &&& (i32 1)) = (i32 1) → wp SC 643 d s 16 [] [] h Q) (K2 : ((xe1 >>> (x1 &&& 31)) &&& (i32 1)) = (i32 1) → wp SC 643 d s 12 [] [] h Q) : wp SC 643 d s 0 [(0, .ref a0), (1, .int x1)] [] h Q := by
  refine wp_run 1 (pc' := 1) (lv' := [(0, .ref a0), (1, .int x1)]) (st' := [.ref a0]) rfl ?_
  obtain ⟨w2, e2a, e2b⟩ := e2
  refine wp_gf ⟨rfl, rfl⟩ rfl e2a e2b ?_
  refine wp_run 5 (pc' := 9) (lv' := [(0, .ref a0), (1, .int x1)]) (st' := [.int (i32 1), .int ((xe1 >>> (x1 &&& 31)) &&& (i32 1))]) rfl ?_
  exact wp_cmp ⟨rfl, rfl⟩ rfl (fun hc => wp_weak (re_sb_nil _) (K1 (ic1_ne hc))) (fun hc => wp_weak (re_sb_nil _) (K2 (ic0_ne hc)))
theorem B643_12 {SC : List Value} {d s : Nat} {h : re_H} {Q : Nat → Value → re_H → Prop} 
    (K : wp SC 643 d s 17 [] [.int (i32 1)] h Q) : wp SC 643 d s 12 [] [] h Q := by
  refine wp_run 2 (pc' := 17) (lv' := []) (st' := [.int (i32 1)]) rfl ?_
  exact wp_weak (re_sb_nil _) K
theorem B643_16 {SC : List Value} {d s : Nat} {h : re_H} {Q : Nat → Value → re_H → Prop} 
    (K : wp SC 643 d s 17 [] [.int (i32 0)] h Q) : wp SC 643 d s 16 [] [] h Q := by
  refine wp_run 1 (pc' := 17) (lv' := []) (st' := [.int (i32 0)]) rfl ?_
  exact wp_weak (re_sb_nil _) K
theorem B643_17 {SC : List Value} {d s : Nat} {h : re_H} {Q : Nat → Value → re_H → Prop} {xs0 : Int32}
    (hz : xs0 = 0 ∨ xs0 = 1) (K : Q 1 (.int xs0) h) : wp SC 643 d s 17 [] [.int xs0] h Q := by
  exact wp_retz ⟨rfl, rfl⟩ rfl hz K
set_option maxRecDepth 20000 in
theorem B644_0 {SC : List Value} {d s : Nat} {h : re_H} {Q : Nat → Value → re_H → Prop} {v0 : Value} (r0 : re_R v0) {x1 : Int32} {x2 : Int32}
    (K1 : v0 = .null → wp SC 644 d s 12 [(0, .null)] [] h Q) (K2 : ∀ b1, v0 = .ref b1 → wp SC 644 d s 4 [(0, .ref b1), (1, .int x1), (2, .int x2)] [] h Q) : wp SC 644 d s 0 [(0, v0), (1, .int x1), (2, .int x2)] [] h Q := by
  refine wp_alR (ins := .aload_n 0) (k := 0) (pc' := 1) ⟨rfl, rfl⟩ (Or.inr ⟨_, rfl, rfl, rfl⟩) rfl r0 ?_
  exact wp_ifn ⟨rfl, rfl⟩ rfl r0 (fun hc => by subst hc; exact wp_weak (re_sb_at rfl (re_sb_nil _)) (K1 rfl)) (fun bb hc => by subst hc; exact wp_weak (re_sb_at rfl (re_sb_at rfl (re_sb_at rfl (re_sb_nil _)))) (K2 bb rfl))
set_option maxRecDepth 20000 in
theorem B644_4 {SC : List Value} {d s : Nat} {h : re_H} {Q : Nat → Value → re_H → Prop} {a0 : Nat} {x1 : Int32} {x2 : Int32}
    {c : Nat} {w : List Value} (eg : re_hg h a0 = some (c, w)) (ec : c = 9) (K : wp SC 643 d 0 0 [(0, .ref a0), (1, .int x1)] [] h (wp_ret SC 644 (d + 1) s 9 [(0, .ref a0), (1, .int x1), (2, .int x2)] [] Q)) : wp SC 644 (d + 1) s 4 [(0, .ref a0), (1, .int x1), (2, .int x2)] [] h Q := by
  refine wp_run 2 (pc' := 6) (lv' := [(0, .ref a0), (1, .int x1), (2, .int x2)]) (st' := [.int x1, .ref a0]) rfl ?_
  have eA : lv_args 0 (.ref a0 :: [.int x1].reverse) = [(0, .ref a0), (1, .int x1)] := by simp [lv_args, vc_i, vc_l, vc_r, vc_n, vc_a]
  refine wp_callV (ar := [.int x1]) (rest := []) (s1 := 0) (s2 := s) (d' := d) ⟨rfl, rfl⟩ rfl (Or.inl rfl)  (by simp [re_cat, vc_i, vc_l, vc_r, vc_n, vc_a]) (by rw [show re_cat (.ref a0 :: [.int x1].reverse) = 2 from by simp [re_cat, vc_i, vc_l, vc_r, vc_n, vc_a]]; decide) (by decide) rfl eg ec rfl (Nat.le_of_eq (Nat.zero_add s)) ?_
  rw [eA]
  exact wp_mono K (fun k v h' z => wp_ret_weak (re_sb_at rfl (re_sb_at rfl (re_sb_at rfl (re_sb_nil _)))) z)
set_option maxRecDepth 20000 in
theorem B644_9 {SC : List Value} {d s : Nat} {h : re_H} {Q : Nat → Value → re_H → Prop} {a0 : Nat} {x1 : Int32} {x2 : Int32} {xs0 : Int32}
    (K1 : ¬ xs0 = 0 → wp SC 644 d s 14 [(0, .ref a0), (1, .int x1), (2, .int x2)] [] h Q) (K2 : xs0 = 0 → wp SC 644 d s 12 [(0, .ref a0)] [] h Q) : wp SC 644 d s 9 [(0, .ref a0), (1, .int x1), (2, .int x2)] [.int xs0] h Q := by
  exact wp_if ⟨rfl, rfl⟩ rfl (fun hc => wp_weak (re_sb_at rfl (re_sb_at rfl (re_sb_at rfl (re_sb_nil _)))) (K1 (ic1_ne hc))) (fun hc => wp_weak (re_sb_at rfl (re_sb_nil _)) (K2 (ic0_ne hc)))
set_option maxRecDepth 20000 in
theorem B644_12 {SC : List Value} {d s : Nat} {h : re_H} {Q : Nat → Value → re_H → Prop} {v0 : Value} (r0 : re_R v0)
    (K : Q 3 v0 h) : wp SC 644 d s 12 [(0, v0)] [] h Q := by
  refine wp_alR (ins := .aload_n 0) (k := 0) (pc' := 13) ⟨rfl, rfl⟩ (Or.inr ⟨_, rfl, rfl, rfl⟩) rfl r0 ?_
  exact wp_reta ⟨rfl, rfl⟩ rfl r0 K
set_option maxRecDepth 20000 in
theorem B644_14 {SC : List Value} {d s : Nat} {h : re_H} {Q : Nat → Value → re_H → Prop} {a0 : Nat} {x1 : Int32} {x2 : Int32}
    {xe1 : Int32} (e2 : nb_fd h a0 9 0 (.int xe1)) (K1 : ¬ xe1 = (i32 1) → wp SC 644 d s 36 [(0, .ref a0), (1, .int x1), (2, .int x2)] [] h Q) (K2 : xe1 = (i32 1) → wp SC 644 d s 22 [(2, .int x2)] [] h Q) : wp SC 644 d s 14 [(0, .ref a0), (1, .int x1), (2, .int x2)] [] h Q := by
  refine wp_run 1 (pc' := 15) (lv' := [(0, .ref a0), (1, .int x1), (2, .int x2)]) (st' := [.ref a0]) rfl ?_
  obtain ⟨w2, e2a, e2b⟩ := e2
  refine wp_gf ⟨rfl, rfl⟩ rfl e2a e2b ?_
  refine wp_run 1 (pc' := 19) (lv' := [(0, .ref a0), (1, .int x1), (2, .int x2)]) (st' := [.int (i32 1), .int xe1]) rfl ?_
  exact wp_cmp ⟨rfl, rfl⟩ rfl (fun hc => wp_weak (re_sb_at rfl (re_sb_at rfl (re_sb_at rfl (re_sb_nil _)))) (K1 (ic1_ne hc))) (fun hc => wp_weak (re_sb_at rfl (re_sb_nil _)) (K2 (ic0_ne hc)))
set_option maxRecDepth 20000 in
theorem B644_22 {SC : List Value} {d s : Nat} {h : re_H} {Q : Nat → Value → re_H → Prop} {x2 : Int32}
    (K : wp SC 644 d s 25 [(2, .int x2)] [.ref h.1] (re_hq h (9, [.int 0, .int 0, .long 0, .null, .null, .null, .int 0, .int 0, .int 0, .int 0, .int 0])) Q) : wp SC 644 d s 22 [(2, .int x2)] [] h Q := by
  exact wp_new (vs := [.int 0, .int 0, .long 0, .null, .null, .null, .int 0, .int 0, .int 0, .int 0, .int 0]) ⟨rfl, rfl⟩ rfl (by decide) (by decide) (wp_weak (re_sb_at rfl (re_sb_nil _)) K)
set_option maxRecDepth 20000 in
theorem B644_25 {SC : List Value} {d s : Nat} {h : re_H} {Q : Nat → Value → re_H → Prop} {x2 : Int32} {as0 : Nat}
    {c : Nat} {w : List Value} (eg : re_hg h as0 = some (c, w)) (ec : c = 9) (K : wp SC 640 d 0 0 [(0, .ref as0), (1, .int (i32 1)), (2, .int x2), (3, .long (0)), (5, .null), (6, .null), (7, .null)] [] h (wp_ret SC 644 (d + 1) s 35 [] [.ref as0] Q)) : wp SC 644 (d + 1) s 25 [(2, .int x2)] [.ref as0] h Q := by
  refine wp_run 7 (pc' := 32) (lv' := [(2, .int x2)]) (st' := [.null, .null, .null, .long (0), .int x2, .int (i32 1), .ref as0, .ref as0]) rfl ?_
  have eA : lv_args 0 (.ref as0 :: [.null, .null, .null, .long (0), .int x2, .int (i32 1)].reverse) = [(0, .ref as0), (1, .int (i32 1)), (2, .int x2), (3, .long (0)), (5, .null), (6, .null), (7, .null)] := by simp [lv_args, vc_i, vc_l, vc_r, vc_n, vc_a]
  refine wp_callI (ar := [.null, .null, .null, .long (0), .int x2, .int (i32 1)]) (rest := [.ref as0]) (s1 := 0) (s2 := s) (d' := d) ⟨rfl, rfl⟩ rfl (Or.inl rfl)  (by simp [re_cat, vc_i, vc_l, vc_r, vc_n, vc_a]) (by rw [show re_cat (.ref as0 :: [.null, .null, .null, .long (0), .int x2, .int (i32 1)].reverse) = 8 from by simp [re_cat, vc_i, vc_l, vc_r, vc_n, vc_a]]; decide) (by decide) rfl eg ec rfl (Nat.le_of_eq (Nat.zero_add s)) ?_
  rw [eA]
  exact wp_mono K (fun k v h' z => wp_ret_weak (re_sb_nil _) z)
set_option maxRecDepth 20000 in
theorem B644_35 {SC : List Value} {d s : Nat} {h : re_H} {Q : Nat → Value → re_H → Prop} {as0 : Nat}
    (K : Q 3 (.ref as0) h) : wp SC 644 d s 35 [] [.ref as0] h Q := by
  exact wp_reta ⟨rfl, rfl⟩ rfl (Or.inr ⟨_, rfl⟩) K
set_option maxRecDepth 20000 in
theorem B644_36 {SC : List Value} {d s : Nat} {h : re_H} {Q : Nat → Value → re_H → Prop} {a0 : Nat} {x1 : Int32} {x2 : Int32}
    {xe1 : Int32} (e2 : nb_fd h a0 9 0 (.int xe1)) (K1 : ¬ xe1 = (i32 6) → wp SC 644 d s 57 [(0, .ref a0), (1, .int x1), (2, .int x2)] [] h Q) (K2 : xe1 = (i32 6) → wp SC 644 d s 45 [(0, .ref a0), (1, .int x1), (2, .int x2)] [] h Q) : wp SC 644 d s 36 [(0, .ref a0), (1, .int x1), (2, .int x2)] [] h Q := by
  refine wp_run 1 (pc' := 37) (lv' := [(0, .ref a0), (1, .int x1), (2, .int x2)]) (st' := [.ref a0]) rfl ?_
  obtain ⟨w2, e2a, e2b⟩ := e2
  refine wp_gf ⟨rfl, rfl⟩ rfl e2a e2b ?_
  refine wp_bi (x := (i32 6)) ⟨rfl, rfl⟩ (by decide) ?_
  exact wp_cmp ⟨rfl, rfl⟩ rfl (fun hc => wp_weak (re_sb_at rfl (re_sb_at rfl (re_sb_at rfl (re_sb_nil _)))) (K1 (ic1_ne hc))) (fun hc => wp_weak (re_sb_at rfl (re_sb_at rfl (re_sb_at rfl (re_sb_nil _)))) (K2 (ic0_ne hc)))
set_option maxRecDepth 20000 in
theorem B644_45 {SC : List Value} {d s : Nat} {h : re_H} {Q : Nat → Value → re_H → Prop} {a0 : Nat} {x1 : Int32} {x2 : Int32}
    {xe1 : Int32} (e2 : nb_fd h a0 9 1 (.int xe1)) (K1 : ¬ xe1 = x1 → wp SC 644 d s 57 [(0, .ref a0), (1, .int x1), (2, .int x2)] [] h Q) (K2 : xe1 = x1 → wp SC 644 d s 53 [(0, .ref a0), (1, .int x1), (2, .int x2)] [] h Q) : wp SC 644 d s 45 [(0, .ref a0), (1, .int x1), (2, .int x2)] [] h Q := by
  refine wp_run 1 (pc' := 46) (lv' := [(0, .ref a0), (1, .int x1), (2, .int x2)]) (st' := [.ref a0]) rfl ?_
  obtain ⟨w2, e2a, e2b⟩ := e2
  refine wp_gf ⟨rfl, rfl⟩ rfl e2a e2b ?_
  refine wp_run 1 (pc' := 50) (lv' := [(0, .ref a0), (1, .int x1), (2, .int x2)]) (st' := [.int x1, .int xe1]) rfl ?_
  exact wp_cmp ⟨rfl, rfl⟩ rfl (fun hc => wp_weak (re_sb_at rfl (re_sb_at rfl (re_sb_at rfl (re_sb_nil _)))) (K1 (ic1_ne hc))) (fun hc => wp_weak (re_sb_at rfl (re_sb_at rfl (re_sb_at rfl (re_sb_nil _)))) (K2 (ic0_ne hc)))
set_option maxRecDepth 20000 in
theorem B644_53 {SC : List Value} {d s : Nat} {h : re_H} {Q : Nat → Value → re_H → Prop} {a0 : Nat} {x1 : Int32} {x2 : Int32}
    (K : wp SC 644 d s 58 [(0, .ref a0), (1, .int x1), (2, .int x2)] [.int (i32 1)] h Q) : wp SC 644 d s 53 [(0, .ref a0), (1, .int x1), (2, .int x2)] [] h Q := by
  refine wp_run 2 (pc' := 58) (lv' := [(0, .ref a0), (1, .int x1), (2, .int x2)]) (st' := [.int (i32 1)]) rfl ?_
  exact wp_weak (re_sb_at rfl (re_sb_at rfl (re_sb_at rfl (re_sb_nil _)))) K
set_option maxRecDepth 20000 in
theorem B644_57 {SC : List Value} {d s : Nat} {h : re_H} {Q : Nat → Value → re_H → Prop} {a0 : Nat} {x1 : Int32} {x2 : Int32}
    (K : wp SC 644 d s 58 [(0, .ref a0), (1, .int x1), (2, .int x2)] [.int (i32 0)] h Q) : wp SC 644 d s 57 [(0, .ref a0), (1, .int x1), (2, .int x2)] [] h Q := by
  refine wp_run 1 (pc' := 58) (lv' := [(0, .ref a0), (1, .int x1), (2, .int x2)]) (st' := [.int (i32 0)]) rfl ?_
  exact wp_weak (re_sb_at rfl (re_sb_at rfl (re_sb_at rfl (re_sb_nil _)))) K
set_option maxRecDepth 20000 in
theorem B644_58 {SC : List Value} {d s : Nat} {h : re_H} {Q : Nat → Value → re_H → Prop} {a0 : Nat} {x1 : Int32} {x2 : Int32} {xs0 : Int32}
    (K : wp SC 644 d s 62 [(0, .ref a0), (1, .int x1), (2, .int x2), (3, .int xs0)] [.ref h.1] (re_hq h (9, [.int 0, .int 0, .long 0, .null, .null, .null, .int 0, .int 0, .int 0, .int 0, .int 0])) Q) : wp SC 644 d s 58 [(0, .ref a0), (1, .int x1), (2, .int x2)] [.int xs0] h Q := by
  refine wp_run 1 (pc' := 59) (lv' := [(3, .int xs0), (0, .ref a0), (1, .int x1), (2, .int x2)]) (st' := []) rfl ?_
  exact wp_new (vs := [.int 0, .int 0, .long 0, .null, .null, .null, .int 0, .int 0, .int 0, .int 0, .int 0]) ⟨rfl, rfl⟩ rfl (by decide) (by decide) (wp_weak (re_sb_at rfl (re_sb_at rfl (re_sb_at rfl (re_sb_at rfl (re_sb_nil _))))) K)
set_option maxRecDepth 20000 in
theorem B644_62 {SC : List Value} {d s : Nat} {h : re_H} {Q : Nat → Value → re_H → Prop} {a0 : Nat} {x1 : Int32} {x2 : Int32} {x3 : Int32} {as0 : Nat}
    {xe1 : Int32} (e2 : nb_fd h a0 9 0 (.int xe1)) {xe3 : Int32} (e4 : nb_fd h a0 9 1 (.int xe3)) {le5 : Int64} (e6 : nb_fd h a0 9 2 (.long le5)) {ve7 : Value} (re7 : re_R ve7) (e8 : nb_fd h a0 9 3 (ve7)) (K : wp SC 644 d 0 0 [(0, ve7), (1, .int x1), (2, .int x2)] [] h (wp_ret SC 644 (d + 1) s 84 [(0, .ref a0), (1, .int x1), (2, .int x2), (3, .int x3)] [.long le5, .int xe3, .int xe1, .ref as0, .ref as0] Q)) : wp SC 644 (d + 1) s 62 [(0, .ref a0), (1, .int x1), (2, .int x2), (3, .int x3)] [.ref as0] h Q := by
  refine wp_run 2 (pc' := 64) (lv' := [(0, .ref a0), (1, .int x1), (2, .int x2), (3, .int x3)]) (st' := [.ref a0, .ref as0, .ref as0]) rfl ?_
  obtain ⟨w2, e2a, e2b⟩ := e2
  refine wp_gf ⟨rfl, rfl⟩ rfl e2a e2b ?_
  refine wp_run 1 (pc' := 68) (lv' := [(0, .ref a0), (1, .int x1), (2, .int x2), (3, .int x3)]) (st' := [.ref a0, .int xe1, .ref as0, .ref as0]) rfl ?_
  obtain ⟨w4, e4a, e4b⟩ := e4
  refine wp_gf ⟨rfl, rfl⟩ rfl e4a e4b ?_
  refine wp_run 1 (pc' := 72) (lv' := [(0, .ref a0), (1, .int x1), (2, .int x2), (3, .int x3)]) (st' := [.ref a0, .int xe3, .int xe1, .ref as0, .ref as0]) rfl ?_
  obtain ⟨w6, e6a, e6b⟩ := e6
  refine wp_gf ⟨rfl, rfl⟩ rfl e6a e6b ?_
  refine wp_run 1 (pc' := 76) (lv' := [(0, .ref a0), (1, .int x1), (2, .int x2), (3, .int x3)]) (st' := [.ref a0, .long le5, .int xe3, .int xe1, .ref as0, .ref as0]) rfl ?_
  obtain ⟨w8, e8a, e8b⟩ := e8
  refine wp_gf ⟨rfl, rfl⟩ rfl e8a e8b ?_
  refine wp_run 2 (pc' := 81) (lv' := [(0, .ref a0), (1, .int x1), (2, .int x2), (3, .int x3)]) (st' := [.int x2, .int x1, ve7, .long le5, .int xe3, .int xe1, .ref as0, .ref as0]) rfl ?_
  have eA : lv_args 0 ([.int x2, .int x1, ve7].reverse) = [(0, ve7), (1, .int x1), (2, .int x2)] := by simp [lv_args, vc_i, vc_l, vc_r, vc_n, vc_a, re_R_cat re7]
  refine wp_callS (ar := [.int x2, .int x1, ve7]) (rest := [.long le5, .int xe3, .int xe1, .ref as0, .ref as0]) (s1 := 0) (s2 := s) (d' := d) ⟨rfl, rfl⟩ rfl (Or.inl rfl) rfl (by simp [re_cat, vc_i, vc_l, vc_r, vc_n, vc_a]) (by rw [show re_cat ([.int x2, .int x1, ve7].reverse) = 3 from by simp [re_cat, vc_i, vc_l, vc_r, vc_n, vc_a, re_R_cat re7]]; decide) (by decide) rfl rfl (Nat.le_of_eq (Nat.zero_add s)) ?_
  rw [eA]
  exact wp_mono K (fun k v h' z => wp_ret_weak (re_sb_at rfl (re_sb_at rfl (re_sb_at rfl (re_sb_at rfl (re_sb_nil _))))) z)
set_option maxRecDepth 20000 in
theorem B644_84 {SC : List Value} {d s : Nat} {h : re_H} {Q : Nat → Value → re_H → Prop} {a0 : Nat} {x1 : Int32} {x2 : Int32} {x3 : Int32} {vs0 : Value} (rs0 : re_R vs0) {ls1 : Int64} {xs2 : Int32} {xs3 : Int32} {as4 : Nat} {as5 : Nat}
    (K1 : x3 = 0 → wp SC 644 d s 95 [(0, .ref a0), (1, .int x1), (2, .int x2)] [vs0, .long ls1, .int xs2, .int xs3, .ref as4, .ref as5] h Q) (K2 : ¬ x3 = 0 → wp SC 644 d s 88 [(0, .ref a0), (1, .int x1), (2, .int x2)] [vs0, .long ls1, .int xs2, .int xs3, .ref as4, .ref as5] h Q) : wp SC 644 d s 84 [(0, .ref a0), (1, .int x1), (2, .int x2), (3, .int x3)] [vs0, .long ls1, .int xs2, .int xs3, .ref as4, .ref as5] h Q := by
  refine wp_run 1 (pc' := 85) (lv' := [(0, .ref a0), (1, .int x1), (2, .int x2), (3, .int x3)]) (st' := [.int x3, vs0, .long ls1, .int xs2, .int xs3, .ref as4, .ref as5]) rfl ?_
  exact wp_if ⟨rfl, rfl⟩ rfl (fun hc => wp_weak (re_sb_at rfl (re_sb_at rfl (re_sb_at rfl (re_sb_nil _)))) (K1 (ic1_eq hc))) (fun hc => wp_weak (re_sb_at rfl (re_sb_at rfl (re_sb_at rfl (re_sb_nil _)))) (K2 (ic0_eq hc)))
set_option maxRecDepth 20000 in
theorem B644_88 {SC : List Value} {d s : Nat} {h : re_H} {Q : Nat → Value → re_H → Prop} {a0 : Nat} {x1 : Int32} {x2 : Int32} {vs0 : Value} (rs0 : re_R vs0) {ls1 : Int64} {xs2 : Int32} {xs3 : Int32} {as4 : Nat} {as5 : Nat}
    {ve1 : Value} (re1 : re_R ve1) (e2 : nb_fd h a0 9 4 (ve1)) (K : wp SC 644 d s 104 [(0, .ref a0), (1, .int x1), (2, .int x2)] [ve1, vs0, .long ls1, .int xs2, .int xs3, .ref as4, .ref as5] h Q) : wp SC 644 d s 88 [(0, .ref a0), (1, .int x1), (2, .int x2)] [vs0, .long ls1, .int xs2, .int xs3, .ref as4, .ref as5] h Q := by
  refine wp_run 1 (pc' := 89) (lv' := [(0, .ref a0), (1, .int x1), (2, .int x2)]) (st' := [.ref a0, vs0, .long ls1, .int xs2, .int xs3, .ref as4, .ref as5]) rfl ?_
  obtain ⟨w2, e2a, e2b⟩ := e2
  refine wp_gf ⟨rfl, rfl⟩ rfl e2a e2b ?_
  refine wp_run 1 (pc' := 104) (lv' := [(0, .ref a0), (1, .int x1), (2, .int x2)]) (st' := [ve1, vs0, .long ls1, .int xs2, .int xs3, .ref as4, .ref as5]) rfl ?_
  exact wp_weak (re_sb_at rfl (re_sb_at rfl (re_sb_at rfl (re_sb_nil _)))) K
set_option maxRecDepth 20000 in
theorem B644_95 {SC : List Value} {d s : Nat} {h : re_H} {Q : Nat → Value → re_H → Prop} {a0 : Nat} {x1 : Int32} {x2 : Int32} {vs0 : Value} (rs0 : re_R vs0) {ls1 : Int64} {xs2 : Int32} {xs3 : Int32} {as4 : Nat} {as5 : Nat}
    {ve1 : Value} (re1 : re_R ve1) (e2 : nb_fd h a0 9 4 (ve1)) (K : wp SC 644 d 0 0 [(0, ve1), (1, .int x1), (2, .int x2)] [] h (wp_ret SC 644 (d + 1) s 104 [(0, .ref a0), (1, .int x1), (2, .int x2)] [vs0, .long ls1, .int xs2, .int xs3, .ref as4, .ref as5] Q)) : wp SC 644 (d + 1) s 95 [(0, .ref a0), (1, .int x1), (2, .int x2)] [vs0, .long ls1, .int xs2, .int xs3, .ref as4, .ref as5] h Q := by
  refine wp_run 1 (pc' := 96) (lv' := [(0, .ref a0), (1, .int x1), (2, .int x2)]) (st' := [.ref a0, vs0, .long ls1, .int xs2, .int xs3, .ref as4, .ref as5]) rfl ?_
  obtain ⟨w2, e2a, e2b⟩ := e2
  refine wp_gf ⟨rfl, rfl⟩ rfl e2a e2b ?_
  refine wp_run 2 (pc' := 101) (lv' := [(0, .ref a0), (1, .int x1), (2, .int x2)]) (st' := [.int x2, .int x1, ve1, vs0, .long ls1, .int xs2, .int xs3, .ref as4, .ref as5]) rfl ?_
  have eA : lv_args 0 ([.int x2, .int x1, ve1].reverse) = [(0, ve1), (1, .int x1), (2, .int x2)] := by simp [lv_args, vc_i, vc_l, vc_r, vc_n, vc_a, re_R_cat re1]
  refine wp_callS (ar := [.int x2, .int x1, ve1]) (rest := [vs0, .long ls1, .int xs2, .int xs3, .ref as4, .ref as5]) (s1 := 0) (s2 := s) (d' := d) ⟨rfl, rfl⟩ rfl (Or.inl rfl) rfl (by simp [re_cat, vc_i, vc_l, vc_r, vc_n, vc_a, re_R_cat rs0]) (by rw [show re_cat ([.int x2, .int x1, ve1].reverse) = 3 from by simp [re_cat, vc_i, vc_l, vc_r, vc_n, vc_a, re_R_cat re1]]; decide) (by decide) rfl rfl (Nat.le_of_eq (Nat.zero_add s)) ?_
  rw [eA]
  exact wp_mono K (fun k v h' z => wp_ret_weak (re_sb_at rfl (re_sb_at rfl (re_sb_at rfl (re_sb_nil _)))) z)
set_option maxRecDepth 20000 in
theorem B644_104 {SC : List Value} {d s : Nat} {h : re_H} {Q : Nat → Value → re_H → Prop} {a0 : Nat} {x1 : Int32} {x2 : Int32} {vs0 : Value} (rs0 : re_R vs0) {vs1 : Value} (rs1 : re_R vs1) {ls2 : Int64} {xs3 : Int32} {xs4 : Int32} {as5 : Nat} {as6 : Nat}
    {ve1 : Value} (re1 : re_R ve1) (e2 : nb_fd h a0 9 5 (ve1)) (K : wp SC 644 d 0 0 [(0, ve1), (1, .int x1), (2, .int x2)] [] h (wp_ret SC 644 (d + 1) s 113 [] [vs0, vs1, .long ls2, .int xs3, .int xs4, .ref as5, .ref as6] Q)) : wp SC 644 (d + 1) s 104 [(0, .ref a0), (1, .int x1), (2, .int x2)] [vs0, vs1, .long ls2, .int xs3, .int xs4, .ref as5, .ref as6] h Q := by
  refine wp_run 1 (pc' := 105) (lv' := [(0, .ref a0), (1, .int x1), (2, .int x2)]) (st' := [.ref a0, vs0, vs1, .long ls2, .int xs3, .int xs4, .ref as5, .ref as6]) rfl ?_
  obtain ⟨w2, e2a, e2b⟩ := e2
  refine wp_gf ⟨rfl, rfl⟩ rfl e2a e2b ?_
  refine wp_run 2 (pc' := 110) (lv' := [(0, .ref a0), (1, .int x1), (2, .int x2)]) (st' := [.int x2, .int x1, ve1, vs0, vs1, .long ls2, .int xs3, .int xs4, .ref as5, .ref as6]) rfl ?_
  have eA : lv_args 0 ([.int x2, .int x1, ve1].reverse) = [(0, ve1), (1, .int x1), (2, .int x2)] := by simp [lv_args, vc_i, vc_l, vc_r, vc_n, vc_a, re_R_cat re1]
  refine wp_callS (ar := [.int x2, .int x1, ve1]) (rest := [vs0, vs1, .long ls2, .int xs3, .int xs4, .ref as5, .ref as6]) (s1 := 0) (s2 := s) (d' := d) ⟨rfl, rfl⟩ rfl (Or.inl rfl) rfl (by simp [re_cat, vc_i, vc_l, vc_r, vc_n, vc_a, re_R_cat rs0, re_R_cat rs1]) (by rw [show re_cat ([.int x2, .int x1, ve1].reverse) = 3 from by simp [re_cat, vc_i, vc_l, vc_r, vc_n, vc_a, re_R_cat re1]]; decide) (by decide) rfl rfl (Nat.le_of_eq (Nat.zero_add s)) ?_
  rw [eA]
  exact wp_mono K (fun k v h' z => wp_ret_weak (re_sb_nil _) z)
set_option maxRecDepth 20000 in
theorem B644_113 {SC : List Value} {d s : Nat} {h : re_H} {Q : Nat → Value → re_H → Prop} {vs0 : Value} (rs0 : re_R vs0) {vs1 : Value} (rs1 : re_R vs1) {vs2 : Value} (rs2 : re_R vs2) {ls3 : Int64} {xs4 : Int32} {xs5 : Int32} {as6 : Nat} {as7 : Nat}
    {c : Nat} {w : List Value} (eg : re_hg h as6 = some (c, w)) (ec : c = 9) (K : wp SC 640 d 0 0 [(0, .ref as6), (1, .int xs5), (2, .int xs4), (3, .long ls3), (5, vs2), (6, vs1), (7, vs0)] [] h (wp_ret SC 644 (d + 1) s 116 [] [.ref as7] Q)) : wp SC 644 (d + 1) s 113 [] [vs0, vs1, vs2, .long ls3, .int xs4, .int xs5, .ref as6, .ref as7] h Q := by
  have eA : lv_args 0 (.ref as6 :: [vs0, vs1, vs2, .long ls3, .int xs4, .int xs5].reverse) = [(0, .ref as6), (1, .int xs5), (2, .int xs4), (3, .long ls3), (5, vs2), (6, vs1), (7, vs0)] := by simp [lv_args, vc_i, vc_l, vc_r, vc_n, vc_a, re_R_cat rs0, re_R_cat rs1, re_R_cat rs2]
  refine wp_callI (ar := [vs0, vs1, vs2, .long ls3, .int xs4, .int xs5]) (rest := [.ref as7]) (s1 := 0) (s2 := s) (d' := d) ⟨rfl, rfl⟩ rfl (Or.inl rfl)  (by simp [re_cat, vc_i, vc_l, vc_r, vc_n, vc_a]) (by rw [show re_cat (.ref as6 :: [vs0, vs1, vs2, .long ls3, .int xs4, .int xs5].reverse) = 8 from by simp [re_cat, vc_i, vc_l, vc_r, vc_n, vc_a, re_R_cat rs0, re_R_cat rs1, re_R_cat rs2]]; decide) (by decide) rfl eg ec rfl (Nat.le_of_eq (Nat.zero_add s)) ?_
  rw [eA]
  exact wp_mono K (fun k v h' z => wp_ret_weak (re_sb_nil _) z)
set_option maxRecDepth 20000 in
theorem B644_116 {SC : List Value} {d s : Nat} {h : re_H} {Q : Nat → Value → re_H → Prop} {as0 : Nat}
    (K : Q 3 (.ref as0) h) : wp SC 644 d s 116 [] [.ref as0] h Q := by
  exact wp_reta ⟨rfl, rfl⟩ rfl (Or.inr ⟨_, rfl⟩) K
