theorem B128_0 {SC : List Value} {d s : Nat} {h : re_H} {Q : Nat → Value → re_H → Prop} {a0 : Nat}
    (K : wp SC 128 d s 4 [(0, .ref a0)] [] h Q) : wp SC 128 d s 0 [(0, .ref a0)] [] h Q := by
  refine wp_run 1 (pc' := 1) (lv' := [(0, .ref a0)]) (st' := [.ref a0]) rfl ?_
  refine wp_obj ⟨rfl, rfl⟩ rfl (by simp [re_cat, vc_i, vc_l, vc_r, vc_n, vc_a]) ?_
  exact wp_weak (re_sb_at rfl (re_sb_nil _)) K
theorem B128_4 {SC : List Value} {d s : Nat} {h : re_H} {Q : Nat → Value → re_H → Prop} {a0 : Nat}
    {s' i : Nat} (hx : (i32 4) = i32 i) (hn : i * 8 ≤ 536870912) (hs : i + 2 * s' ≤ 11 + 2 * s) (hs' : s' ≤ s) (K : wp SC 128 d s' 8 [(0, .ref a0)] [.ref h.1, .ref a0] (re_hq h (100, List.replicate i (.int 0))) Q) : wp SC 128 d s 4 [(0, .ref a0)] [] h Q := by
  refine wp_run 2 (pc' := 6) (lv' := [(0, .ref a0)]) (st' := [.int (i32 4), .ref a0]) rfl ?_
  exact wp_na ⟨rfl, rfl⟩ hx hn (Or.inl ⟨rfl, rfl, rfl⟩) hs hs' (wp_weak (re_sb_at rfl (re_sb_nil _)) K)
theorem B128_8 {SC : List Value} {d s : Nat} {h : re_H} {Q : Nat → Value → re_H → Prop} {a0 : Nat} {as0 : Nat} {as1 : Nat}
    {w : List Value} (e : re_hg h as1 = some (2, w)) (hk : 1 < w.length) (K : wp SC 128 d s 11 [(0, .ref a0)] [] (re_hw h as1 (2, w.set 1 (.ref as0))) Q) : wp SC 128 d s 8 [(0, .ref a0)] [.ref as0, .ref as1] h Q := by
  exact wp_pf ⟨rfl, rfl⟩ rfl (Or.inr ⟨rfl, rfl⟩) e hk (fit_a (Or.inr ⟨_, rfl⟩)) (wp_weak (re_sb_at rfl (re_sb_nil _)) K)
theorem B128_11 {SC : List Value} {d s : Nat} {h : re_H} {Q : Nat → Value → re_H → Prop} {a0 : Nat}
    {s' i : Nat} (hx : (i32 4) = i32 i) (hn : i * 8 ≤ 536870912) (hs : i + 2 * s' ≤ 11 + 2 * s) (hs' : s' ≤ s) (K : wp SC 128 d s' 16 [] [.ref h.1, .ref a0] (re_hq h (103, List.replicate i .null)) Q) : wp SC 128 d s 11 [(0, .ref a0)] [] h Q := by
  refine wp_run 2 (pc' := 13) (lv' := [(0, .ref a0)]) (st' := [.int (i32 4), .ref a0]) rfl ?_
  exact wp_ana ⟨rfl, rfl⟩ rfl hx hn hs hs' (wp_weak (re_sb_nil _) K)
theorem B128_16 {SC : List Value} {d s : Nat} {h : re_H} {Q : Nat → Value → re_H → Prop} {as0 : Nat} {as1 : Nat}
    {w : List Value} (e : re_hg h as1 = some (2, w)) (hk : 2 < w.length) (K : wp SC 128 d s 19 [] [] (re_hw h as1 (2, w.set 2 (.ref as0))) Q) : wp SC 128 d s 16 [] [.ref as0, .ref as1] h Q := by
  exact wp_pf ⟨rfl, rfl⟩ rfl (Or.inr ⟨rfl, rfl⟩) e hk (fit_a (Or.inr ⟨_, rfl⟩)) (wp_weak (re_sb_nil _) K)
theorem B128_19 {SC : List Value} {d s : Nat} {h : re_H} {Q : Nat → Value → re_H → Prop} 
    (K : Q 0 .null h) : wp SC 128 d s 19 [] [] h Q := by
  exact wp_retv ⟨rfl, rfl⟩ rfl K
theorem B129_0 {SC : List Value} {d s : Nat} {h : re_H} {Q : Nat → Value → re_H → Prop} {a0 : Nat}
    (K : wp SC 129 d s 6 [(0, .ref a0), (1, .int (i32 0)), (2, .int (i32 0)), (3, .int (i32 0))] [] h Q) : wp SC 129 d s 0 [(0, .ref a0)] [] h Q := by
  refine wp_run 6 (pc' := 6) (lv' := [(3, .int (i32 0)), (2, .int (i32 0)), (1, .int (i32 0)), (0, .ref a0)]) (st' := []) rfl ?_
  exact wp_weak (re_sb_at rfl (re_sb_at rfl (re_sb_at rfl (re_sb_at rfl (re_sb_nil _))))) K
theorem B129_6 {SC : List Value} {d s : Nat} {h : re_H} {Q : Nat → Value → re_H → Prop} {a0 : Nat} {x1 : Int32} {x2 : Int32} {x3 : Int32}
    {xe1 : Int32} (e2 : nb_fd h a0 2 0 (.int xe1)) (K1 : ¬ x3 < xe1 → wp SC 129 d s 60 [(1, .int x1)] [] h Q) (K2 : x3 < xe1 → wp SC 129 d s 14 [(0, .ref a0), (1, .int x1), (2, .int x2), (3, .int x3)] [] h Q) : wp SC 129 d s 6 [(0, .ref a0), (1, .int x1), (2, .int x2), (3, .int x3)] [] h Q := by
  refine wp_run 2 (pc' := 8) (lv' := [(0, .ref a0), (1, .int x1), (2, .int x2), (3, .int x3)]) (st' := [.ref a0, .int x3]) rfl ?_
  obtain ⟨w2, e2a, e2b⟩ := e2
  refine wp_gf ⟨rfl, rfl⟩ rfl e2a e2b ?_
  exact wp_cmp ⟨rfl, rfl⟩ rfl (fun hc => wp_weak (re_sb_at rfl (re_sb_nil _)) (K1 (ic1_ge hc))) (fun hc => wp_weak (re_sb_at rfl (re_sb_at rfl (re_sb_at rfl (re_sb_at rfl (re_sb_nil _))))) (K2 (ic0_ge hc)))
theorem B129_14 {SC : List Value} {d s : Nat} {h : re_H} {Q : Nat → Value → re_H → Prop} {a0 : Nat} {x1 : Int32} {x2 : Int32} {x3 : Int32}
    {ae1 : Nat} (e2 : nb_fd h a0 2 2 (.ref ae1)) {ve3 : Value} (re3 : re_R ve3) (e4 : nb_ar h ae1 103 x3 (ve3)) (K1 : ve3 = .null → wp SC 129 d s 24 [(0, .ref a0), (2, .int x2), (3, .int x3)] [.int x1] h Q) (K2 : ∀ b5, ve3 = .ref b5 → wp SC 129 d s 28 [(0, .ref a0), (2, .int x2), (3, .int x3)] [.int x1] h Q) : wp SC 129 d s 14 [(0, .ref a0), (1, .int x1), (2, .int x2), (3, .int x3)] [] h Q := by
  refine wp_run 2 (pc' := 16) (lv' := [(0, .ref a0), (1, .int x1), (2, .int x2), (3, .int x3)]) (st' := [.ref a0, .int x1]) rfl ?_
  obtain ⟨w2, e2a, e2b⟩ := e2
  refine wp_gf ⟨rfl, rfl⟩ rfl e2a e2b ?_
  refine wp_run 1 (pc' := 20) (lv' := [(0, .ref a0), (1, .int x1), (2, .int x2), (3, .int x3)]) (st' := [.int x3, .ref ae1, .int x1]) rfl ?_
  obtain ⟨w4, i4, e4a, e4x, e4i, e4v⟩ := e4
  refine wp_aal ⟨rfl, rfl⟩ e4a ⟨by decide, by decide⟩ e4x e4i e4v ?_
  exact wp_ifnn ⟨rfl, rfl⟩ rfl re3 (fun bb hc => by subst hc; exact wp_weak (re_sb_at rfl (re_sb_at rfl (re_sb_at rfl (re_sb_nil _)))) (K2 bb rfl)) (fun hc => by subst hc; exact wp_weak (re_sb_at rfl (re_sb_at rfl (re_sb_at rfl (re_sb_nil _)))) (K1 rfl))
theorem B129_24 {SC : List Value} {d s : Nat} {h : re_H} {Q : Nat → Value → re_H → Prop} {a0 : Nat} {x2 : Int32} {x3 : Int32} {xs0 : Int32}
    (K : wp SC 129 d s 41 [(0, .ref a0), (2, .int x2), (3, .int x3)] [.int (i32 0), .int xs0] h Q) : wp SC 129 d s 24 [(0, .ref a0), (2, .int x2), (3, .int x3)] [.int xs0] h Q := by
  refine wp_run 2 (pc' := 41) (lv' := [(0, .ref a0), (2, .int x2), (3, .int x3)]) (st' := [.int (i32 0), .int xs0]) rfl ?_
  exact wp_weak (re_sb_at rfl (re_sb_at rfl (re_sb_at rfl (re_sb_nil _)))) K
theorem B129_28 {SC : List Value} {d s : Nat} {h : re_H} {Q : Nat → Value → re_H → Prop} {a0 : Nat} {x2 : Int32} {x3 : Int32} {xs0 : Int32}
    {ae1 : Nat} (e2 : nb_fd h a0 2 2 (.ref ae1)) {ve3 : Value} (re3 : re_R ve3) (e4 : nb_ar h ae1 103 x3 (ve3)) {b5 : Nat} (n5 : ve3 = .ref b5) {xe6 : Int32} (e7 : nb_fd h b5 9 7 (.int xe6)) (K : wp SC 129 d s 41 [(0, .ref a0), (2, .int x2), (3, .int x3)] [.int (xe6 &&& (x2 ^^^ (-1))), .int xs0] h Q) : wp SC 129 d s 28 [(0, .ref a0), (2, .int x2), (3, .int x3)] [.int xs0] h Q := by
  refine wp_run 1 (pc' := 29) (lv' := [(0, .ref a0), (2, .int x2), (3, .int x3)]) (st' := [.ref a0, .int xs0]) rfl ?_
  obtain ⟨w2, e2a, e2b⟩ := e2
  refine wp_gf ⟨rfl, rfl⟩ rfl e2a e2b ?_
  refine wp_run 1 (pc' := 33) (lv' := [(0, .ref a0), (2, .int x2), (3, .int x3)]) (st' := [.int x3, .ref ae1, .int xs0]) rfl ?_
  obtain ⟨w4, i4, e4a, e4x, e4i, e4v⟩ := e4
  refine wp_aal ⟨rfl, rfl⟩ e4a ⟨by decide, by decide⟩ e4x e4i e4v ?_
  subst n5
  obtain ⟨w7, e7a, e7b⟩ := e7
  refine wp_gf ⟨rfl, rfl⟩ rfl e7a e7b ?_
  refine wp_run 4 (pc' := 41) (lv' := [(0, .ref a0), (2, .int x2), (3, .int x3)]) (st' := [.int (xe6 &&& (x2 ^^^ (-1))), .int xs0]) rfl ?_
  exact wp_weak (re_sb_at rfl (re_sb_at rfl (re_sb_at rfl (re_sb_nil _)))) K
theorem B129_41 {SC : List Value} {d s : Nat} {h : re_H} {Q : Nat → Value → re_H → Prop} {a0 : Nat} {x2 : Int32} {x3 : Int32} {xs0 : Int32} {xs1 : Int32}
    {ae1 : Nat} (e2 : nb_fd h a0 2 1 (.ref ae1)) {xe3 : Int32} (e4 : nb_ar h ae1 100 x3 (.int xe3)) (K : wp SC 129 d s 6 [(0, .ref a0), (1, .int (xs1 ||| xs0)), (2, .int (x2 ||| ((i32 1) <<< (xe3 &&& 31)))), (3, .int (x3 + (i32 1)))] [] h Q) : wp SC 129 d s 41 [(0, .ref a0), (2, .int x2), (3, .int x3)] [.int xs0, .int xs1] h Q := by
  refine wp_run 5 (pc' := 46) (lv' := [(1, .int (xs1 ||| xs0)), (0, .ref a0), (2, .int x2), (3, .int x3)]) (st' := [.ref a0, .int (i32 1), .int x2]) rfl ?_
  obtain ⟨w2, e2a, e2b⟩ := e2
  refine wp_gf ⟨rfl, rfl⟩ rfl e2a e2b ?_
  refine wp_run 1 (pc' := 50) (lv' := [(1, .int (xs1 ||| xs0)), (0, .ref a0), (2, .int x2), (3, .int x3)]) (st' := [.int x3, .ref ae1, .int (i32 1), .int x2]) rfl ?_
  obtain ⟨w4, i4, e4a, e4x, e4i, e4v⟩ := e4
  refine wp_ial ⟨rfl, rfl⟩ e4a rfl e4x e4i e4v ?_
  refine wp_run 5 (pc' := 6) (lv' := [(3, .int (x3 + (i32 1))), (2, .int (x2 ||| ((i32 1) <<< (xe3 &&& 31)))), (1, .int (xs1 ||| xs0)), (0, .ref a0)]) (st' := []) rfl ?_
  exact wp_weak (re_sb_at rfl (re_sb_at rfl (re_sb_at rfl (re_sb_at rfl (re_sb_nil _))))) K
theorem B129_60 {SC : List Value} {d s : Nat} {h : re_H} {Q : Nat → Value → re_H → Prop} {x1 : Int32}
    (K : Q 1 (.int x1) h) : wp SC 129 d s 60 [(1, .int x1)] [] h Q := by
  refine wp_run 1 (pc' := 61) (lv' := [(1, .int x1)]) (st' := [.int x1]) rfl ?_
  exact wp_reti ⟨rfl, rfl⟩ rfl K
theorem B130_0 {SC : List Value} {d s : Nat} {h : re_H} {Q : Nat → Value → re_H → Prop} {a0 : Nat}
    (K : wp SC 130 d s 4 [(0, .ref a0), (1, .int (i32 0)), (2, .int (i32 0))] [] h Q) : wp SC 130 d s 0 [(0, .ref a0)] [] h Q := by
  refine wp_run 4 (pc' := 4) (lv' := [(2, .int (i32 0)), (1, .int (i32 0)), (0, .ref a0)]) (st' := []) rfl ?_
  exact wp_weak (re_sb_at rfl (re_sb_at rfl (re_sb_at rfl (re_sb_nil _)))) K
theorem B130_4 {SC : List Value} {d s : Nat} {h : re_H} {Q : Nat → Value → re_H → Prop} {a0 : Nat} {x1 : Int32} {x2 : Int32}
    {xe1 : Int32} (e2 : nb_fd h a0 2 0 (.int xe1)) (K1 : ¬ x2 < xe1 → wp SC 130 d s 29 [(1, .int x1)] [] h Q) (K2 : x2 < xe1 → wp SC 130 d s 12 [(0, .ref a0), (1, .int x1), (2, .int x2)] [] h Q) : wp SC 130 d s 4 [(0, .ref a0), (1, .int x1), (2, .int x2)] [] h Q := by
  refine wp_run 2 (pc' := 6) (lv' := [(0, .ref a0), (1, .int x1), (2, .int x2)]) (st' := [.ref a0, .int x2]) rfl ?_
  obtain ⟨w2, e2a, e2b⟩ := e2
  refine wp_gf ⟨rfl, rfl⟩ rfl e2a e2b ?_
  exact wp_cmp ⟨rfl, rfl⟩ rfl (fun hc => wp_weak (re_sb_at rfl (re_sb_nil _)) (K1 (ic1_ge hc))) (fun hc => wp_weak (re_sb_at rfl (re_sb_at rfl (re_sb_at rfl (re_sb_nil _)))) (K2 (ic0_ge hc)))
theorem B130_12 {SC : List Value} {d s : Nat} {h : re_H} {Q : Nat → Value → re_H → Prop} {a0 : Nat} {x1 : Int32} {x2 : Int32}
    {ae1 : Nat} (e2 : nb_fd h a0 2 1 (.ref ae1)) {xe3 : Int32} (e4 : nb_ar h ae1 100 x2 (.int xe3)) (K : wp SC 130 d s 4 [(0, .ref a0), (1, .int (x1 ||| ((i32 1) <<< (xe3 &&& 31)))), (2, .int (x2 + (i32 1)))] [] h Q) : wp SC 130 d s 12 [(0, .ref a0), (1, .int x1), (2, .int x2)] [] h Q := by
  refine wp_run 3 (pc' := 15) (lv' := [(0, .ref a0), (1, .int x1), (2, .int x2)]) (st' := [.ref a0, .int (i32 1), .int x1]) rfl ?_
  obtain ⟨w2, e2a, e2b⟩ := e2
  refine wp_gf ⟨rfl, rfl⟩ rfl e2a e2b ?_
  refine wp_run 1 (pc' := 19) (lv' := [(0, .ref a0), (1, .int x1), (2, .int x2)]) (st' := [.int x2, .ref ae1, .int (i32 1), .int x1]) rfl ?_
  obtain ⟨w4, i4, e4a, e4x, e4i, e4v⟩ := e4
  refine wp_ial ⟨rfl, rfl⟩ e4a rfl e4x e4i e4v ?_
  refine wp_run 5 (pc' := 4) (lv' := [(2, .int (x2 + (i32 1))), (1, .int (x1 ||| ((i32 1) <<< (xe3 &&& 31)))), (0, .ref a0)]) (st' := []) rfl ?_
  exact wp_weak (re_sb_at rfl (re_sb_at rfl (re_sb_at rfl (re_sb_nil _)))) K
theorem B130_29 {SC : List Value} {d s : Nat} {h : re_H} {Q : Nat → Value → re_H → Prop} {x1 : Int32}
    (K : Q 1 (.int x1) h) : wp SC 130 d s 29 [(1, .int x1)] [] h Q := by
  refine wp_run 1 (pc' := 30) (lv' := [(1, .int x1)]) (st' := [.int x1]) rfl ?_
  exact wp_reti ⟨rfl, rfl⟩ rfl K
theorem B131_0 {SC : List Value} {d s : Nat} {h : re_H} {Q : Nat → Value → re_H → Prop} {a0 : Nat} {a1 : Nat}
    {xe1 : Int32} (e2 : nb_fd h a0 2 0 (.int xe1)) {xe3 : Int32} (e4 : nb_fd h a1 2 0 (.int xe3)) (K1 : xe1 = xe3 → wp SC 131 d s 13 [(0, .ref a0), (1, .ref a1)] [] h Q) (K2 : ¬ xe1 = xe3 → wp SC 131 d s 11 [] [] h Q) : wp SC 131 d s 0 [(0, .ref a0), (1, .ref a1)] [] h Q := by
  refine wp_run 1 (pc' := 1) (lv' := [(0, .ref a0), (1, .ref a1)]) (st' := [.ref a0]) rfl ?_
  obtain ⟨w2, e2a, e2b⟩ := e2
  refine wp_gf ⟨rfl, rfl⟩ rfl e2a e2b ?_
  refine wp_run 1 (pc' := 5) (lv' := [(0, .ref a0), (1, .ref a1)]) (st' := [.ref a1, .int xe1]) rfl ?_
  obtain ⟨w4, e4a, e4b⟩ := e4
  refine wp_gf ⟨rfl, rfl⟩ rfl e4a e4b ?_
  exact wp_cmp ⟨rfl, rfl⟩ rfl (fun hc => wp_weak (re_sb_at rfl (re_sb_at rfl (re_sb_nil _))) (K1 (ic1_eq hc))) (fun hc => wp_weak (re_sb_nil _) (K2 (ic0_eq hc)))
theorem B131_11 {SC : List Value} {d s : Nat} {h : re_H} {Q : Nat → Value → re_H → Prop} 
    (K : Q 1 (.int (i32 0)) h) : wp SC 131 d s 11 [] [] h Q := by
  refine wp_run 1 (pc' := 12) (lv' := []) (st' := [.int (i32 0)]) rfl ?_
  exact wp_retz ⟨rfl, rfl⟩ rfl (Or.inl rfl) K
theorem B131_13 {SC : List Value} {d s : Nat} {h : re_H} {Q : Nat → Value → re_H → Prop} {a0 : Nat} {a1 : Nat}
    (K : wp SC 131 d s 15 [(0, .ref a0), (1, .ref a1), (2, .int (i32 0))] [] h Q) : wp SC 131 d s 13 [(0, .ref a0), (1, .ref a1)] [] h Q := by
  refine wp_run 2 (pc' := 15) (lv' := [(2, .int (i32 0)), (0, .ref a0), (1, .ref a1)]) (st' := []) rfl ?_
  exact wp_weak (re_sb_at rfl (re_sb_at rfl (re_sb_at rfl (re_sb_nil _)))) K
theorem B131_15 {SC : List Value} {d s : Nat} {h : re_H} {Q : Nat → Value → re_H → Prop} {a0 : Nat} {a1 : Nat} {x2 : Int32}
    {xe1 : Int32} (e2 : nb_fd h a0 2 0 (.int xe1)) (K1 : ¬ x2 < xe1 → wp SC 131 d s 64 [] [] h Q) (K2 : x2 < xe1 → wp SC 131 d s 23 [(0, .ref a0), (1, .ref a1), (2, .int x2)] [] h Q) : wp SC 131 d s 15 [(0, .ref a0), (1, .ref a1), (2, .int x2)] [] h Q := by
  refine wp_run 2 (pc' := 17) (lv' := [(0, .ref a0), (1, .ref a1), (2, .int x2)]) (st' := [.ref a0, .int x2]) rfl ?_
  obtain ⟨w2, e2a, e2b⟩ := e2
  refine wp_gf ⟨rfl, rfl⟩ rfl e2a e2b ?_
  exact wp_cmp ⟨rfl, rfl⟩ rfl (fun hc => wp_weak (re_sb_nil _) (K1 (ic1_ge hc))) (fun hc => wp_weak (re_sb_at rfl (re_sb_at rfl (re_sb_at rfl (re_sb_nil _)))) (K2 (ic0_ge hc)))
theorem B131_23 {SC : List Value} {d s : Nat} {h : re_H} {Q : Nat → Value → re_H → Prop} {a0 : Nat} {a1 : Nat} {x2 : Int32}
    {ae1 : Nat} (e2 : nb_fd h a0 2 1 (.ref ae1)) {xe3 : Int32} (e4 : nb_ar h ae1 100 x2 (.int xe3)) {ae5 : Nat} (e6 : nb_fd h a1 2 1 (.ref ae5)) {xe7 : Int32} (e8 : nb_ar h ae5 100 x2 (.int xe7)) (K1 : ¬ xe3 = xe7 → wp SC 131 d s 56 [] [] h Q) (K2 : xe3 = xe7 → wp SC 131 d s 38 [(0, .ref a0), (1, .ref a1), (2, .int x2)] [] h Q) : wp SC 131 d s 23 [(0, .ref a0), (1, .ref a1), (2, .int x2)] [] h Q := by
  refine wp_run 1 (pc' := 24) (lv' := [(0, .ref a0), (1, .ref a1), (2, .int x2)]) (st' := [.ref a0]) rfl ?_
  obtain ⟨w2, e2a, e2b⟩ := e2
  refine wp_gf ⟨rfl, rfl⟩ rfl e2a e2b ?_
  refine wp_run 1 (pc' := 28) (lv' := [(0, .ref a0), (1, .ref a1), (2, .int x2)]) (st' := [.int x2, .ref ae1]) rfl ?_
  obtain ⟨w4, i4, e4a, e4x, e4i, e4v⟩ := e4
  refine wp_ial ⟨rfl, rfl⟩ e4a rfl e4x e4i e4v ?_
  refine wp_run 1 (pc' := 30) (lv' := [(0, .ref a0), (1, .ref a1), (2, .int x2)]) (st' := [.ref a1, .int xe3]) rfl ?_
  obtain ⟨w6, e6a, e6b⟩ := e6
  refine wp_gf ⟨rfl, rfl⟩ rfl e6a e6b ?_
  refine wp_run 1 (pc' := 34) (lv' := [(0, .ref a0), (1, .ref a1), (2, .int x2)]) (st' := [.int x2, .ref ae5, .int xe3]) rfl ?_
  obtain ⟨w8, i8, e8a, e8x, e8i, e8v⟩ := e8
  refine wp_ial ⟨rfl, rfl⟩ e8a rfl e8x e8i e8v ?_
  exact wp_cmp ⟨rfl, rfl⟩ rfl (fun hc => wp_weak (re_sb_nil _) (K1 (ic1_ne hc))) (fun hc => wp_weak (re_sb_at rfl (re_sb_at rfl (re_sb_at rfl (re_sb_nil _)))) (K2 (ic0_ne hc)))
theorem B131_38 {SC : List Value} {d s : Nat} {h : re_H} {Q : Nat → Value → re_H → Prop} {a0 : Nat} {a1 : Nat} {x2 : Int32}
    {ae1 : Nat} (e2 : nb_fd h a0 2 2 (.ref ae1)) {ve3 : Value} (re3 : re_R ve3) (e4 : nb_ar h ae1 103 x2 (ve3)) {ae5 : Nat} (e6 : nb_fd h a1 2 2 (.ref ae5)) {ve7 : Value} (re7 : re_R ve7) (e8 : nb_ar h ae5 103 x2 (ve7)) (K : wp SC 641 d 0 0 [(0, ve3), (1, ve7)] [] h (wp_ret SC 131 (d + 1) s 53 [(0, .ref a0), (1, .ref a1), (2, .int x2)] [] Q)) : wp SC 131 (d + 1) s 38 [(0, .ref a0), (1, .ref a1), (2, .int x2)] [] h Q := by
  refine wp_run 1 (pc' := 39) (lv' := [(0, .ref a0), (1, .ref a1), (2, .int x2)]) (st' := [.ref a0]) rfl ?_
  obtain ⟨w2, e2a, e2b⟩ := e2
  refine wp_gf ⟨rfl, rfl⟩ rfl e2a e2b ?_
  refine wp_run 1 (pc' := 43) (lv' := [(0, .ref a0), (1, .ref a1), (2, .int x2)]) (st' := [.int x2, .ref ae1]) rfl ?_
  obtain ⟨w4, i4, e4a, e4x, e4i, e4v⟩ := e4
  refine wp_aal ⟨rfl, rfl⟩ e4a ⟨by decide, by decide⟩ e4x e4i e4v ?_
  refine wp_run 1 (pc' := 45) (lv' := [(0, .ref a0), (1, .ref a1), (2, .int x2)]) (st' := [.ref a1, ve3]) rfl ?_
  obtain ⟨w6, e6a, e6b⟩ := e6
  refine wp_gf ⟨rfl, rfl⟩ rfl e6a e6b ?_
  refine wp_run 1 (pc' := 49) (lv' := [(0, .ref a0), (1, .ref a1), (2, .int x2)]) (st' := [.int x2, .ref ae5, ve3]) rfl ?_
  obtain ⟨w8, i8, e8a, e8x, e8i, e8v⟩ := e8
  refine wp_aal ⟨rfl, rfl⟩ e8a ⟨by decide, by decide⟩ e8x e8i e8v ?_
  have eA : lv_args 0 ([ve7, ve3].reverse) = [(0, ve3), (1, ve7)] := by simp [lv_args, vc_i, vc_l, vc_r, vc_n, vc_a, re_R_cat re7, re_R_cat re3]
  refine wp_callS (ar := [ve7, ve3]) (rest := []) (s1 := 0) (s2 := s) (d' := d) ⟨rfl, rfl⟩ rfl (Or.inr (Or.inl rfl)) rfl (by simp [re_cat, vc_i, vc_l, vc_r, vc_n, vc_a]) (by rw [show re_cat ([ve7, ve3].reverse) = 2 from by simp [re_cat, vc_i, vc_l, vc_r, vc_n, vc_a, re_R_cat re7, re_R_cat re3]]; decide) (by decide) rfl rfl (Nat.le_of_eq (Nat.zero_add s)) ?_
  rw [eA]
  exact wp_mono K (fun k v h' z => wp_ret_weak (re_sb_at rfl (re_sb_at rfl (re_sb_at rfl (re_sb_nil _)))) z)
theorem B131_53 {SC : List Value} {d s : Nat} {h : re_H} {Q : Nat → Value → re_H → Prop} {a0 : Nat} {a1 : Nat} {x2 : Int32} {xs0 : Int32}
    (K1 : ¬ xs0 = 0 → wp SC 131 d s 58 [(0, .ref a0), (1, .ref a1), (2, .int x2)] [] h Q) (K2 : xs0 = 0 → wp SC 131 d s 56 [] [] h Q) : wp SC 131 d s 53 [(0, .ref a0), (1, .ref a1), (2, .int x2)] [.int xs0] h Q := by
  exact wp_if ⟨rfl, rfl⟩ rfl (fun hc => wp_weak (re_sb_at rfl (re_sb_at rfl (re_sb_at rfl (re_sb_nil _)))) (K1 (ic1_ne hc))) (fun hc => wp_weak (re_sb_nil _) (K2 (ic0_ne hc)))
theorem B131_56 {SC : List Value} {d s : Nat} {h : re_H} {Q : Nat → Value → re_H → Prop} 
    (K : Q 1 (.int (i32 0)) h) : wp SC 131 d s 56 [] [] h Q := by
  refine wp_run 1 (pc' := 57) (lv' := []) (st' := [.int (i32 0)]) rfl ?_
  exact wp_retz ⟨rfl, rfl⟩ rfl (Or.inl rfl) K
theorem B131_58 {SC : List Value} {d s : Nat} {h : re_H} {Q : Nat → Value → re_H → Prop} {a0 : Nat} {a1 : Nat} {x2 : Int32}
    (K : wp SC 131 d s 15 [(0, .ref a0), (1, .ref a1), (2, .int (x2 + (i32 1)))] [] h Q) : wp SC 131 d s 58 [(0, .ref a0), (1, .ref a1), (2, .int x2)] [] h Q := by
  refine wp_run 2 (pc' := 15) (lv' := [(2, .int (x2 + (i32 1))), (0, .ref a0), (1, .ref a1)]) (st' := []) rfl ?_
  exact wp_weak (re_sb_at rfl (re_sb_at rfl (re_sb_at rfl (re_sb_nil _)))) K
theorem B131_64 {SC : List Value} {d s : Nat} {h : re_H} {Q : Nat → Value → re_H → Prop} 
    (K : Q 1 (.int (i32 1)) h) : wp SC 131 d s 64 [] [] h Q := by
  refine wp_run 1 (pc' := 65) (lv' := []) (st' := [.int (i32 1)]) rfl ?_
  exact wp_retz ⟨rfl, rfl⟩ rfl (Or.inr rfl) K
theorem B132_0 {SC : List Value} {d s : Nat} {h : re_H} {Q : Nat → Value → re_H → Prop} {a0 : Nat}
    (K : wp SC 132 d s 2 [(0, .ref a0), (1, .int (i32 0))] [] h Q) : wp SC 132 d s 0 [(0, .ref a0)] [] h Q := by
  refine wp_run 2 (pc' := 2) (lv' := [(1, .int (i32 0)), (0, .ref a0)]) (st' := []) rfl ?_
  exact wp_weak (re_sb_at rfl (re_sb_at rfl (re_sb_nil _))) K
theorem B132_2 {SC : List Value} {d s : Nat} {h : re_H} {Q : Nat → Value → re_H → Prop} {a0 : Nat} {x1 : Int32}
    {xe1 : Int32} (e2 : nb_fd h a0 2 0 (.int xe1)) (K1 : ¬ x1 < xe1 → wp SC 132 d s 39 [] [] h Q) (K2 : x1 < xe1 → wp SC 132 d s 10 [(0, .ref a0), (1, .int x1)] [] h Q) : wp SC 132 d s 2 [(0, .ref a0), (1, .int x1)] [] h Q := by
  refine wp_run 2 (pc' := 4) (lv' := [(0, .ref a0), (1, .int x1)]) (st' := [.ref a0, .int x1]) rfl ?_
  obtain ⟨w2, e2a, e2b⟩ := e2
  refine wp_gf ⟨rfl, rfl⟩ rfl e2a e2b ?_
  exact wp_cmp ⟨rfl, rfl⟩ rfl (fun hc => wp_weak (re_sb_nil _) (K1 (ic1_ge hc))) (fun hc => wp_weak (re_sb_at rfl (re_sb_at rfl (re_sb_nil _))) (K2 (ic0_ge hc)))
theorem B132_10 {SC : List Value} {d s : Nat} {h : re_H} {Q : Nat → Value → re_H → Prop} {a0 : Nat} {x1 : Int32}
    {ae1 : Nat} (e2 : nb_fd h a0 2 2 (.ref ae1)) {ve3 : Value} (re3 : re_R ve3) (e4 : nb_ar h ae1 103 x1 (ve3)) (K1 : ve3 = .null → wp SC 132 d s 33 [(0, .ref a0), (1, .int x1)] [] h Q) (K2 : ∀ b5, ve3 = .ref b5 → wp SC 132 d s 19 [(0, .ref a0), (1, .int x1)] [] h Q) : wp SC 132 d s 10 [(0, .ref a0), (1, .int x1)] [] h Q := by
  refine wp_run 1 (pc' := 11) (lv' := [(0, .ref a0), (1, .int x1)]) (st' := [.ref a0]) rfl ?_
  obtain ⟨w2, e2a, e2b⟩ := e2
  refine wp_gf ⟨rfl, rfl⟩ rfl e2a e2b ?_
  refine wp_run 1 (pc' := 15) (lv' := [(0, .ref a0), (1, .int x1)]) (st' := [.int x1, .ref ae1]) rfl ?_
  obtain ⟨w4, i4, e4a, e4x, e4i, e4v⟩ := e4
  refine wp_aal ⟨rfl, rfl⟩ e4a ⟨by decide, by decide⟩ e4x e4i e4v ?_
  exact wp_ifn ⟨rfl, rfl⟩ rfl re3 (fun hc => by subst hc; exact wp_weak (re_sb_at rfl (re_sb_at rfl (re_sb_nil _))) (K1 rfl)) (fun bb hc => by subst hc; exact wp_weak (re_sb_at rfl (re_sb_at rfl (re_sb_nil _))) (K2 bb rfl))
theorem B132_19 {SC : List Value} {d s : Nat} {h : re_H} {Q : Nat → Value → re_H → Prop} {a0 : Nat} {x1 : Int32}
    {ae1 : Nat} (e2 : nb_fd h a0 2 2 (.ref ae1)) {ve3 : Value} (re3 : re_R ve3) (e4 : nb_ar h ae1 103 x1 (ve3)) {b5 : Nat} (n5 : ve3 = .ref b5) {xe6 : Int32} (e7 : nb_fd h b5 9 10 (.int xe6)) (K1 : xe6 = 0 → wp SC 132 d s 33 [(0, .ref a0), (1, .int x1)] [] h Q) (K2 : ¬ xe6 = 0 → wp SC 132 d s 31 [] [] h Q) : wp SC 132 d s 19 [(0, .ref a0), (1, .int x1)] [] h Q := by
  refine wp_run 1 (pc' := 20) (lv' := [(0, .ref a0), (1, .int x1)]) (st' := [.ref a0]) rfl ?_
  obtain ⟨w2, e2a, e2b⟩ := e2
  refine wp_gf ⟨rfl, rfl⟩ rfl e2a e2b ?_
  refine wp_run 1 (pc' := 24) (lv' := [(0, .ref a0), (1, .int x1)]) (st' := [.int x1, .ref ae1]) rfl ?_
  obtain ⟨w4, i4, e4a, e4x, e4i, e4v⟩ := e4
  refine wp_aal ⟨rfl, rfl⟩ e4a ⟨by decide, by decide⟩ e4x e4i e4v ?_
  subst n5
  obtain ⟨w7, e7a, e7b⟩ := e7
  refine wp_gf ⟨rfl, rfl⟩ rfl e7a e7b ?_
  exact wp_if ⟨rfl, rfl⟩ rfl (fun hc => wp_weak (re_sb_at rfl (re_sb_at rfl (re_sb_nil _))) (K1 (ic1_eq hc))) (fun hc => wp_weak (re_sb_nil _) (K2 (ic0_eq hc)))
theorem B132_31 {SC : List Value} {d s : Nat} {h : re_H} {Q : Nat → Value → re_H → Prop} 
    (K : Q 1 (.int (i32 1)) h) : wp SC 132 d s 31 [] [] h Q := by
  refine wp_run 1 (pc' := 32) (lv' := []) (st' := [.int (i32 1)]) rfl ?_
  exact wp_retz ⟨rfl, rfl⟩ rfl (Or.inr rfl) K
theorem B132_33 {SC : List Value} {d s : Nat} {h : re_H} {Q : Nat → Value → re_H → Prop} {a0 : Nat} {x1 : Int32}
    (K : wp SC 132 d s 2 [(0, .ref a0), (1, .int (x1 + (i32 1)))] [] h Q) : wp SC 132 d s 33 [(0, .ref a0), (1, .int x1)] [] h Q := by
  refine wp_run 2 (pc' := 2) (lv' := [(1, .int (x1 + (i32 1))), (0, .ref a0)]) (st' := []) rfl ?_
  exact wp_weak (re_sb_at rfl (re_sb_at rfl (re_sb_nil _))) K
theorem B132_39 {SC : List Value} {d s : Nat} {h : re_H} {Q : Nat → Value → re_H → Prop} 
    (K : Q 1 (.int (i32 0)) h) : wp SC 132 d s 39 [] [] h Q := by
  refine wp_run 1 (pc' := 40) (lv' := []) (st' := [.int (i32 0)]) rfl ?_
  exact wp_retz ⟨rfl, rfl⟩ rfl (Or.inl rfl) K
theorem B133_0 {SC : List Value} {d s : Nat} {h : re_H} {Q : Nat → Value → re_H → Prop} {a0 : Nat}
    (K : wp SC 133 d s 4 [(0, .ref a0), (1, .int (i32 0)), (2, .int (i32 0))] [] h Q) : wp SC 133 d s 0 [(0, .ref a0)] [] h Q := by
  refine wp_run 4 (pc' := 4) (lv' := [(2, .int (i32 0)), (1, .int (i32 0)), (0, .ref a0)]) (st' := []) rfl ?_
  exact wp_weak (re_sb_at rfl (re_sb_at rfl (re_sb_at rfl (re_sb_nil _)))) K
theorem B133_4 {SC : List Value} {d s : Nat} {h : re_H} {Q : Nat → Value → re_H → Prop} {a0 : Nat} {x1 : Int32} {x2 : Int32}
    {xe1 : Int32} (e2 : nb_fd h a0 2 0 (.int xe1)) (K1 : ¬ x2 < xe1 → wp SC 133 d s 43 [(1, .int x1)] [] h Q) (K2 : x2 < xe1 → wp SC 133 d s 12 [(0, .ref a0), (1, .int x1), (2, .int x2)] [] h Q) : wp SC 133 d s 4 [(0, .ref a0), (1, .int x1), (2, .int x2)] [] h Q := by
  refine wp_run 2 (pc' := 6) (lv' := [(0, .ref a0), (1, .int x1), (2, .int x2)]) (st' := [.ref a0, .int x2]) rfl ?_
  obtain ⟨w2, e2a, e2b⟩ := e2
  refine wp_gf ⟨rfl, rfl⟩ rfl e2a e2b ?_
  exact wp_cmp ⟨rfl, rfl⟩ rfl (fun hc => wp_weak (re_sb_at rfl (re_sb_nil _)) (K1 (ic1_ge hc))) (fun hc => wp_weak (re_sb_at rfl (re_sb_at rfl (re_sb_at rfl (re_sb_nil _)))) (K2 (ic0_ge hc)))
theorem B133_12 {SC : List Value} {d s : Nat} {h : re_H} {Q : Nat → Value → re_H → Prop} {a0 : Nat} {x1 : Int32} {x2 : Int32}
    {ae1 : Nat} (e2 : nb_fd h a0 2 2 (.ref ae1)) {ve3 : Value} (re3 : re_R ve3) (e4 : nb_ar h ae1 103 x2 (ve3)) (K1 : ve3 = .null → wp SC 133 d s 22 [(0, .ref a0), (2, .int x2)] [.int x1] h Q) (K2 : ∀ b5, ve3 = .ref b5 → wp SC 133 d s 26 [(0, .ref a0), (2, .int x2)] [.int x1] h Q) : wp SC 133 d s 12 [(0, .ref a0), (1, .int x1), (2, .int x2)] [] h Q := by
  refine wp_run 2 (pc' := 14) (lv' := [(0, .ref a0), (1, .int x1), (2, .int x2)]) (st' := [.ref a0, .int x1]) rfl ?_
  obtain ⟨w2, e2a, e2b⟩ := e2
  refine wp_gf ⟨rfl, rfl⟩ rfl e2a e2b ?_
  refine wp_run 1 (pc' := 18) (lv' := [(0, .ref a0), (1, .int x1), (2, .int x2)]) (st' := [.int x2, .ref ae1, .int x1]) rfl ?_
  obtain ⟨w4, i4, e4a, e4x, e4i, e4v⟩ := e4
  refine wp_aal ⟨rfl, rfl⟩ e4a ⟨by decide, by decide⟩ e4x e4i e4v ?_
  exact wp_ifnn ⟨rfl, rfl⟩ rfl re3 (fun bb hc => by subst hc; exact wp_weak (re_sb_at rfl (re_sb_at rfl (re_sb_nil _))) (K2 bb rfl)) (fun hc => by subst hc; exact wp_weak (re_sb_at rfl (re_sb_at rfl (re_sb_nil _))) (K1 rfl))
theorem B133_22 {SC : List Value} {d s : Nat} {h : re_H} {Q : Nat → Value → re_H → Prop} {a0 : Nat} {x2 : Int32} {xs0 : Int32}
    (K : wp SC 133 d s 35 [(0, .ref a0), (2, .int x2)] [.int (i32 0), .int xs0] h Q) : wp SC 133 d s 22 [(0, .ref a0), (2, .int x2)] [.int xs0] h Q := by
  refine wp_run 2 (pc' := 35) (lv' := [(0, .ref a0), (2, .int x2)]) (st' := [.int (i32 0), .int xs0]) rfl ?_
  exact wp_weak (re_sb_at rfl (re_sb_at rfl (re_sb_nil _))) K
theorem B133_26 {SC : List Value} {d s : Nat} {h : re_H} {Q : Nat → Value → re_H → Prop} {a0 : Nat} {x2 : Int32} {xs0 : Int32}
    {ae1 : Nat} (e2 : nb_fd h a0 2 2 (.ref ae1)) {ve3 : Value} (re3 : re_R ve3) (e4 : nb_ar h ae1 103 x2 (ve3)) {b5 : Nat} (n5 : ve3 = .ref b5) {xe6 : Int32} (e7 : nb_fd h b5 9 9 (.int xe6)) (K : wp SC 133 d s 35 [(0, .ref a0), (2, .int x2)] [.int xe6, .int xs0] h Q) : wp SC 133 d s 26 [(0, .ref a0), (2, .int x2)] [.int xs0] h Q := by
  refine wp_run 1 (pc' := 27) (lv' := [(0, .ref a0), (2, .int x2)]) (st' := [.ref a0, .int xs0]) rfl ?_
  obtain ⟨w2, e2a, e2b⟩ := e2
  refine wp_gf ⟨rfl, rfl⟩ rfl e2a e2b ?_
  refine wp_run 1 (pc' := 31) (lv' := [(0, .ref a0), (2, .int x2)]) (st' := [.int x2, .ref ae1, .int xs0]) rfl ?_
  obtain ⟨w4, i4, e4a, e4x, e4i, e4v⟩ := e4
  refine wp_aal ⟨rfl, rfl⟩ e4a ⟨by decide, by decide⟩ e4x e4i e4v ?_
  subst n5
  obtain ⟨w7, e7a, e7b⟩ := e7
  refine wp_gf ⟨rfl, rfl⟩ rfl e7a e7b ?_
  exact wp_weak (re_sb_at rfl (re_sb_at rfl (re_sb_nil _))) K
theorem B133_35 {SC : List Value} {d s : Nat} {h : re_H} {Q : Nat → Value → re_H → Prop} {a0 : Nat} {x2 : Int32} {xs0 : Int32} {xs1 : Int32}
    (K : wp SC 133 d s 4 [(0, .ref a0), (1, .int (xs1 ||| xs0)), (2, .int (x2 + (i32 1)))] [] h Q) : wp SC 133 d s 35 [(0, .ref a0), (2, .int x2)] [.int xs0, .int xs1] h Q := by
  refine wp_run 4 (pc' := 4) (lv' := [(2, .int (x2 + (i32 1))), (1, .int (xs1 ||| xs0)), (0, .ref a0)]) (st' := []) rfl ?_
  exact wp_weak (re_sb_at rfl (re_sb_at rfl (re_sb_at rfl (re_sb_nil _)))) K
theorem B133_43 {SC : List Value} {d s : Nat} {h : re_H} {Q : Nat → Value → re_H → Prop} {x1 : Int32}
    (K : Q 1 (.int x1) h) : wp SC 133 d s 43 [(1, .int x1)] [] h Q := by
  refine wp_run 1 (pc' := 44) (lv' := [(1, .int x1)]) (st' := [.int x1]) rfl ?_
  exact wp_reti ⟨rfl, rfl⟩ rfl K
theorem B134_0 {SC : List Value} {d s : Nat} {h : re_H} {Q : Nat → Value → re_H → Prop} {a0 : Nat} {a1 : Nat}
    {xe1 : Int32} (e2 : nb_fd h a1 2 0 (.int xe1)) {w : List Value} (e : re_hg h a0 = some (2, w)) (hk : 0 < w.length) (K : wp SC 134 d s 8 [(0, .ref a0), (1, .ref a1)] [] (re_hw h a0 (2, w.set 0 (.int xe1))) Q) : wp SC 134 d s 0 [(0, .ref a0), (1, .ref a1)] [] h Q := by
  refine wp_run 2 (pc' := 2) (lv' := [(0, .ref a0), (1, .ref a1)]) (st' := [.ref a1, .ref a0]) rfl ?_
  obtain ⟨w2, e2a, e2b⟩ := e2
  refine wp_gf ⟨rfl, rfl⟩ rfl e2a e2b ?_
  exact wp_pf ⟨rfl, rfl⟩ rfl (Or.inl rfl) e hk (fit_i _) (wp_weak (re_sb_at rfl (re_sb_at rfl (re_sb_nil _))) K)
theorem B134_8 {SC : List Value} {d s : Nat} {h : re_H} {Q : Nat → Value → re_H → Prop} {a0 : Nat} {a1 : Nat}
    (K : wp SC 134 d s 10 [(0, .ref a0), (1, .ref a1), (2, .int (i32 0))] [] h Q) : wp SC 134 d s 8 [(0, .ref a0), (1, .ref a1)] [] h Q := by
  refine wp_run 2 (pc' := 10) (lv' := [(2, .int (i32 0)), (0, .ref a0), (1, .ref a1)]) (st' := []) rfl ?_
  exact wp_weak (re_sb_at rfl (re_sb_at rfl (re_sb_at rfl (re_sb_nil _)))) K
theorem B134_10 {SC : List Value} {d s : Nat} {h : re_H} {Q : Nat → Value → re_H → Prop} {a0 : Nat} {a1 : Nat} {x2 : Int32}
    (K1 : ¬ x2 < (i32 4) → wp SC 134 d s 45 [] [] h Q) (K2 : x2 < (i32 4) → wp SC 134 d s 15 [(0, .ref a0), (1, .ref a1), (2, .int x2)] [] h Q) : wp SC 134 d s 10 [(0, .ref a0), (1, .ref a1), (2, .int x2)] [] h Q := by
  refine wp_run 2 (pc' := 12) (lv' := [(0, .ref a0), (1, .ref a1), (2, .int x2)]) (st' := [.int (i32 4), .int x2]) rfl ?_
  exact wp_cmp ⟨rfl, rfl⟩ rfl (fun hc => wp_weak (re_sb_nil _) (K1 (ic1_ge hc))) (fun hc => wp_weak (re_sb_at rfl (re_sb_at rfl (re_sb_at rfl (re_sb_nil _)))) (K2 (ic0_ge hc)))
theorem B134_15 {SC : List Value} {d s : Nat} {h : re_H} {Q : Nat → Value → re_H → Prop} {a0 : Nat} {a1 : Nat} {x2 : Int32}
    {ae1 : Nat} (e2 : nb_fd h a0 2 1 (.ref ae1)) {ae3 : Nat} (e4 : nb_fd h a1 2 1 (.ref ae3)) {xe5 : Int32} (e6 : nb_ar h ae3 100 x2 (.int xe5)) {w : List Value} {i : Nat} (e : re_hg h ae1 = some (100, w)) (hx : x2 = i32 i) (hi : i < 2147483648) (hl : i < w.length) (K : wp SC 134 d s 27 [(0, .ref a0), (1, .ref a1), (2, .int x2)] [] (re_hw h ae1 (100, w.set i (.int xe5))) Q) : wp SC 134 d s 15 [(0, .ref a0), (1, .ref a1), (2, .int x2)] [] h Q := by
  refine wp_run 1 (pc' := 16) (lv' := [(0, .ref a0), (1, .ref a1), (2, .int x2)]) (st' := [.ref a0]) rfl ?_
  obtain ⟨w2, e2a, e2b⟩ := e2
  refine wp_gf ⟨rfl, rfl⟩ rfl e2a e2b ?_
  refine wp_run 2 (pc' := 21) (lv' := [(0, .ref a0), (1, .ref a1), (2, .int x2)]) (st' := [.ref a1, .int x2, .ref ae1]) rfl ?_
  obtain ⟨w4, e4a, e4b⟩ := e4
  refine wp_gf ⟨rfl, rfl⟩ rfl e4a e4b ?_
  refine wp_run 1 (pc' := 25) (lv' := [(0, .ref a0), (1, .ref a1), (2, .int x2)]) (st' := [.int x2, .ref ae3, .int x2, .ref ae1]) rfl ?_
  obtain ⟨w6, i6, e6a, e6x, e6i, e6v⟩ := e6
  refine wp_ial ⟨rfl, rfl⟩ e6a rfl e6x e6i e6v ?_
  exact wp_ias ⟨rfl, rfl⟩ e rfl hx hi hl (wp_weak (re_sb_at rfl (re_sb_at rfl (re_sb_at rfl (re_sb_nil _)))) K)
theorem B134_27 {SC : List Value} {d s : Nat} {h : re_H} {Q : Nat → Value → re_H → Prop} {a0 : Nat} {a1 : Nat} {x2 : Int32}
    {ae1 : Nat} (e2 : nb_fd h a0 2 2 (.ref ae1)) {ae3 : Nat} (e4 : nb_fd h a1 2 2 (.ref ae3)) {ve5 : Value} (re5 : re_R ve5) (e6 : nb_ar h ae3 103 x2 (ve5)) {w : List Value} {i : Nat} (e : re_hg h ae1 = some (103, w)) (hx : x2 = i32 i) (hi : i < 2147483648) (hl : i < w.length) (hv : ve5 = .null ∨ ∃ (b : Nat) (ws : List Value), ve5 = .ref b ∧ re_hg h b = some (9, ws)) (K : wp SC 134 d s 39 [(0, .ref a0), (1, .ref a1), (2, .int x2)] [] (re_hw h ae1 (103, w.set i (ve5))) Q) : wp SC 134 d s 27 [(0, .ref a0), (1, .ref a1), (2, .int x2)] [] h Q := by
  refine wp_run 1 (pc' := 28) (lv' := [(0, .ref a0), (1, .ref a1), (2, .int x2)]) (st' := [.ref a0]) rfl ?_
  obtain ⟨w2, e2a, e2b⟩ := e2
  refine wp_gf ⟨rfl, rfl⟩ rfl e2a e2b ?_
  refine wp_run 2 (pc' := 33) (lv' := [(0, .ref a0), (1, .ref a1), (2, .int x2)]) (st' := [.ref a1, .int x2, .ref ae1]) rfl ?_
  obtain ⟨w4, e4a, e4b⟩ := e4
  refine wp_gf ⟨rfl, rfl⟩ rfl e4a e4b ?_
  refine wp_run 1 (pc' := 37) (lv' := [(0, .ref a0), (1, .ref a1), (2, .int x2)]) (st' := [.int x2, .ref ae3, .int x2, .ref ae1]) rfl ?_
  obtain ⟨w6, i6, e6a, e6x, e6i, e6v⟩ := e6
  refine wp_aal ⟨rfl, rfl⟩ e6a ⟨by decide, by decide⟩ e6x e6i e6v ?_
  exact wp_aas ⟨rfl, rfl⟩ e ⟨by decide, by decide⟩ hx hi hl (hv.elim Or.inl (fun z => by obtain ⟨b, ws, z1, z2⟩ := z; exact Or.inr ⟨b, _, ws, z1, z2, by decide⟩)) (wp_weak (re_sb_at rfl (re_sb_at rfl (re_sb_at rfl (re_sb_nil _)))) K)
theorem B134_39 {SC : List Value} {d s : Nat} {h : re_H} {Q : Nat → Value → re_H → Prop} {a0 : Nat} {a1 : Nat} {x2 : Int32}
    (K : wp SC 134 d s 10 [(0, .ref a0), (1, .ref a1), (2, .int (x2 + (i32 1)))] [] h Q) : wp SC 134 d s 39 [(0, .ref a0), (1, .ref a1), (2, .int x2)] [] h Q := by
  refine wp_run 2 (pc' := 10) (lv' := [(2, .int (x2 + (i32 1))), (0, .ref a0), (1, .ref a1)]) (st' := []) rfl ?_
  exact wp_weak (re_sb_at rfl (re_sb_at rfl (re_sb_at rfl (re_sb_nil _)))) K
theorem B134_45 {SC : List Value} {d s : Nat} {h : re_H} {Q : Nat → Value → re_H → Prop} 
    (K : Q 0 .null h) : wp SC 134 d s 45 [] [] h Q := by
  exact wp_retv ⟨rfl, rfl⟩ rfl K
theorem B135_0 {SC : List Value} {d s : Nat} {h : re_H} {Q : Nat → Value → re_H → Prop} {a0 : Nat} {x1 : Int32}
    (K : wp SC 135 d s 2 [(0, .ref a0), (1, .int x1), (2, .int (i32 0))] [] h Q) : wp SC 135 d s 0 [(0, .ref a0), (1, .int x1)] [] h Q := by
  refine wp_run 2 (pc' := 2) (lv' := [(2, .int (i32 0)), (0, .ref a0), (1, .int x1)]) (st' := []) rfl ?_
  exact wp_weak (re_sb_at rfl (re_sb_at rfl (re_sb_at rfl (re_sb_nil _)))) K
theorem B135_2 {SC : List Value} {d s : Nat} {h : re_H} {Q : Nat → Value → re_H → Prop} {a0 : Nat} {x1 : Int32} {x2 : Int32}
    {xe1 : Int32} (e2 : nb_fd h a0 2 0 (.int xe1)) (K1 : ¬ x2 < xe1 → wp SC 135 d s 33 [] [] h Q) (K2 : x2 < xe1 → wp SC 135 d s 10 [(0, .ref a0), (1, .int x1), (2, .int x2)] [] h Q) : wp SC 135 d s 2 [(0, .ref a0), (1, .int x1), (2, .int x2)] [] h Q := by
  refine wp_run 2 (pc' := 4) (lv' := [(0, .ref a0), (1, .int x1), (2, .int x2)]) (st' := [.ref a0, .int x2]) rfl ?_
  obtain ⟨w2, e2a, e2b⟩ := e2
  refine wp_gf ⟨rfl, rfl⟩ rfl e2a e2b ?_
  exact wp_cmp ⟨rfl, rfl⟩ rfl (fun hc => wp_weak (re_sb_nil _) (K1 (ic1_ge hc))) (fun hc => wp_weak (re_sb_at rfl (re_sb_at rfl (re_sb_at rfl (re_sb_nil _)))) (K2 (ic0_ge hc)))
theorem B135_10 {SC : List Value} {d s : Nat} {h : re_H} {Q : Nat → Value → re_H → Prop} {a0 : Nat} {x1 : Int32} {x2 : Int32}
    (K1 : ¬ x2 < (i32 4) → wp SC 135 d s 33 [] [] h Q) (K2 : x2 < (i32 4) → wp SC 135 d s 15 [(0, .ref a0), (1, .int x1), (2, .int x2)] [] h Q) : wp SC 135 d s 10 [(0, .ref a0), (1, .int x1), (2, .int x2)] [] h Q := by
  refine wp_run 2 (pc' := 12) (lv' := [(0, .ref a0), (1, .int x1), (2, .int x2)]) (st' := [.int (i32 4), .int x2]) rfl ?_
  exact wp_cmp ⟨rfl, rfl⟩ rfl (fun hc => wp_weak (re_sb_nil _) (K1 (ic1_ge hc))) (fun hc => wp_weak (re_sb_at rfl (re_sb_at rfl (re_sb_at rfl (re_sb_nil _)))) (K2 (ic0_ge hc)))
theorem B135_15 {SC : List Value} {d s : Nat} {h : re_H} {Q : Nat → Value → re_H → Prop} {a0 : Nat} {x1 : Int32} {x2 : Int32}
    {ae1 : Nat} (e2 : nb_fd h a0 2 1 (.ref ae1)) {xe3 : Int32} (e4 : nb_ar h ae1 100 x2 (.int xe3)) (K1 : ¬ xe3 = x1 → wp SC 135 d s 27 [(0, .ref a0), (1, .int x1), (2, .int x2)] [] h Q) (K2 : xe3 = x1 → wp SC 135 d s 25 [(2, .int x2)] [] h Q) : wp SC 135 d s 15 [(0, .ref a0), (1, .int x1), (2, .int x2)] [] h Q := by
  refine wp_run 1 (pc' := 16) (lv' := [(0, .ref a0), (1, .int x1), (2, .int x2)]) (st' := [.ref a0]) rfl ?_
  obtain ⟨w2, e2a, e2b⟩ := e2
  refine wp_gf ⟨rfl, rfl⟩ rfl e2a e2b ?_
  refine wp_run 1 (pc' := 20) (lv' := [(0, .ref a0), (1, .int x1), (2, .int x2)]) (st' := [.int x2, .ref ae1]) rfl ?_
  obtain ⟨w4, i4, e4a, e4x, e4i, e4v⟩ := e4
  refine wp_ial ⟨rfl, rfl⟩ e4a rfl e4x e4i e4v ?_
  refine wp_run 1 (pc' := 22) (lv' := [(0, .ref a0), (1, .int x1), (2, .int x2)]) (st' := [.int x1, .int xe3]) rfl ?_
  exact wp_cmp ⟨rfl, rfl⟩ rfl (fun hc => wp_weak (re_sb_at rfl (re_sb_at rfl (re_sb_at rfl (re_sb_nil _)))) (K1 (ic1_ne hc))) (fun hc => wp_weak (re_sb_at rfl (re_sb_nil _)) (K2 (ic0_ne hc)))
theorem B135_25 {SC : List Value} {d s : Nat} {h : re_H} {Q : Nat → Value → re_H → Prop} {x2 : Int32}
    (K : Q 1 (.int x2) h) : wp SC 135 d s 25 [(2, .int x2)] [] h Q := by
  refine wp_run 1 (pc' := 26) (lv' := [(2, .int x2)]) (st' := [.int x2]) rfl ?_
  exact wp_reti ⟨rfl, rfl⟩ rfl K
theorem B135_27 {SC : List Value} {d s : Nat} {h : re_H} {Q : Nat → Value → re_H → Prop} {a0 : Nat} {x1 : Int32} {x2 : Int32}
    (K : wp SC 135 d s 2 [(0, .ref a0), (1, .int x1), (2, .int (x2 + (i32 1)))] [] h Q) : wp SC 135 d s 27 [(0, .ref a0), (1, .int x1), (2, .int x2)] [] h Q := by
  refine wp_run 2 (pc' := 2) (lv' := [(2, .int (x2 + (i32 1))), (0, .ref a0), (1, .int x1)]) (st' := []) rfl ?_
  exact wp_weak (re_sb_at rfl (re_sb_at rfl (re_sb_at rfl (re_sb_nil _)))) K
theorem B135_33 {SC : List Value} {d s : Nat} {h : re_H} {Q : Nat → Value → re_H → Prop} 
    (K : Q 1 (.int (-1)) h) : wp SC 135 d s 33 [] [] h Q := by
  refine wp_run 1 (pc' := 34) (lv' := []) (st' := [.int (-1)]) rfl ?_
  exact wp_reti ⟨rfl, rfl⟩ rfl K
theorem B136_0 {SC : List Value} {d s : Nat} {h : re_H} {Q : Nat → Value → re_H → Prop} {a0 : Nat} {x1 : Int32} {v2 : Value} (r2 : re_R v2)
    {c : Nat} {w : List Value} (eg : re_hg h a0 = some (c, w)) (ec : c = 2) (K : wp SC 135 d 0 0 [(0, .ref a0), (1, .int x1)] [] h (wp_ret SC 136 (d + 1) s 5 [(0, .ref a0), (1, .int x1), (2, v2)] [] Q)) : wp SC 136 (d + 1) s 0 [(0, .ref a0), (1, .int x1), (2, v2)] [] h Q := by
  refine wp_run 2 (pc' := 2) (lv' := [(0, .ref a0), (1, .int x1), (2, v2)]) (st' := [.int x1, .ref a0]) rfl ?_
  have eA : lv_args 0 (.ref a0 :: [.int x1].reverse) = [(0, .ref a0), (1, .int x1)] := by simp [lv_args, vc_i, vc_l, vc_r, vc_n, vc_a]
  refine wp_callV (ar := [.int x1]) (rest := []) (s1 := 0) (s2 := s) (d' := d) ⟨rfl, rfl⟩ rfl (Or.inl rfl)  (by simp [re_cat, vc_i, vc_l, vc_r, vc_n, vc_a]) (by rw [show re_cat (.ref a0 :: [.int x1].reverse) = 2 from by simp [re_cat, vc_i, vc_l, vc_r, vc_n, vc_a]]; decide) (by decide) rfl eg ec rfl (Nat.le_of_eq (Nat.zero_add s)) ?_
  rw [eA]
  exact wp_mono K (fun k v h' z => wp_ret_weak (re_sb_at rfl (re_sb_at rfl (re_sb_at rfl (re_sb_nil _)))) z)
theorem B136_5 {SC : List Value} {d s : Nat} {h : re_H} {Q : Nat → Value → re_H → Prop} {a0 : Nat} {x1 : Int32} {v2 : Value} (r2 : re_R v2) {xs0 : Int32}
    (K1 : ¬ xs0 < 0 → wp SC 136 d s 30 [(0, .ref a0), (1, .int x1), (2, v2), (3, .int xs0)] [] h Q) (K2 : xs0 < 0 → wp SC 136 d s 10 [(0, .ref a0), (1, .int x1), (2, v2), (3, .int xs0)] [] h Q) : wp SC 136 d s 5 [(0, .ref a0), (1, .int x1), (2, v2)] [.int xs0] h Q := by
  refine wp_stI (ins := .istore_n 3) (k := 3) (pc' := 6) (lv' := [(3, .int xs0), (0, .ref a0), (1, .int x1), (2, v2)]) ⟨rfl, rfl⟩ (Or.inr ⟨_, rfl, rfl, rfl⟩) (by decide) (by simp [re_s1, re_s2, re_c2, re_lk, vc_i, vc_l, vc_r, vc_n, vc_a, re_R_cat r2]) ?_
  refine wp_run 1 (pc' := 7) (lv' := [(3, .int xs0), (0, .ref a0), (1, .int x1), (2, v2)]) (st' := [.int xs0]) rfl ?_
  exact wp_if ⟨rfl, rfl⟩ rfl (fun hc => wp_weak (re_sb_at rfl (re_sb_at rfl (re_sb_at rfl (re_sb_at rfl (re_sb_nil _))))) (K1 (ic1_ge hc))) (fun hc => wp_weak (re_sb_at rfl (re_sb_at rfl (re_sb_at rfl (re_sb_at rfl (re_sb_nil _))))) (K2 (ic0_ge hc)))
theorem B136_10 {SC : List Value} {d s : Nat} {h : re_H} {Q : Nat → Value → re_H → Prop} {a0 : Nat} {x1 : Int32} {v2 : Value} (r2 : re_R v2) {x3 : Int32}
    {xe1 : Int32} (e2 : nb_fd h a0 2 0 (.int xe1)) (K1 : ¬ xe1 < (i32 4) → wp SC 136 d s 30 [(0, .ref a0), (1, .int x1), (2, v2), (3, .int x3)] [] h Q) (K2 : xe1 < (i32 4) → wp SC 136 d s 18 [(0, .ref a0), (1, .int x1), (2, v2)] [] h Q) : wp SC 136 d s 10 [(0, .ref a0), (1, .int x1), (2, v2), (3, .int x3)] [] h Q := by
  refine wp_run 1 (pc' := 11) (lv' := [(0, .ref a0), (1, .int x1), (2, v2), (3, .int x3)]) (st' := [.ref a0]) rfl ?_
  obtain ⟨w2, e2a, e2b⟩ := e2
  refine wp_gf ⟨rfl, rfl⟩ rfl e2a e2b ?_
  refine wp_run 1 (pc' := 15) (lv' := [(0, .ref a0), (1, .int x1), (2, v2), (3, .int x3)]) (st' := [.int (i32 4), .int xe1]) rfl ?_
  exact wp_cmp ⟨rfl, rfl⟩ rfl (fun hc => wp_weak (re_sb_at rfl (re_sb_at rfl (re_sb_at rfl (re_sb_at rfl (re_sb_nil _))))) (K1 (ic1_ge hc))) (fun hc => wp_weak (re_sb_at rfl (re_sb_at rfl (re_sb_at rfl (re_sb_nil _)))) (K2 (ic0_ge hc)))
theorem B136_18 {SC : List Value} {d s : Nat} {h : re_H} {Q : Nat → Value → re_H → Prop} {a0 : Nat} {x1 : Int32} {v2 : Value} (r2 : re_R v2)
    {xe1 : Int32} (e2 : nb_fd h a0 2 0 (.int xe1)) {w : List Value} (e : re_hg h a0 = some (2, w)) (hk : 0 < w.length) (K : wp SC 136 d s 29 [(0, .ref a0), (1, .int x1), (2, v2)] [.int xe1] (re_hw h a0 (2, w.set 0 (.int (xe1 + (i32 1))))) Q) : wp SC 136 d s 18 [(0, .ref a0), (1, .int x1), (2, v2)] [] h Q := by
  refine wp_run 2 (pc' := 20) (lv' := [(0, .ref a0), (1, .int x1), (2, v2)]) (st' := [.ref a0, .ref a0]) rfl ?_
  obtain ⟨w2, e2a, e2b⟩ := e2
  refine wp_gf ⟨rfl, rfl⟩ rfl e2a e2b ?_
  refine wp_run 3 (pc' := 26) (lv' := [(0, .ref a0), (1, .int x1), (2, v2)]) (st' := [.int (xe1 + (i32 1)), .ref a0, .int xe1]) rfl ?_
  exact wp_pf ⟨rfl, rfl⟩ rfl (Or.inl rfl) e hk (fit_i _) (wp_weak (re_sb_at rfl (re_sb_at rfl (re_sb_at rfl (re_sb_nil _)))) K)
theorem B136_29 {SC : List Value} {d s : Nat} {h : re_H} {Q : Nat → Value → re_H → Prop} {a0 : Nat} {x1 : Int32} {v2 : Value} (r2 : re_R v2) {xs0 : Int32}
    (K : wp SC 136 d s 30 [(0, .ref a0), (1, .int x1), (2, v2), (3, .int xs0)] [] h Q) : wp SC 136 d s 29 [(0, .ref a0), (1, .int x1), (2, v2)] [.int xs0] h Q := by
  refine wp_stI (ins := .istore_n 3) (k := 3) (pc' := 30) (lv' := [(3, .int xs0), (0, .ref a0), (1, .int x1), (2, v2)]) ⟨rfl, rfl⟩ (Or.inr ⟨_, rfl, rfl, rfl⟩) (by decide) (by simp [re_s1, re_s2, re_c2, re_lk, vc_i, vc_l, vc_r, vc_n, vc_a, re_R_cat r2]) ?_
  exact wp_weak (re_sb_at rfl (re_sb_at rfl (re_sb_at rfl (re_sb_at rfl (re_sb_nil _))))) K
theorem B136_30 {SC : List Value} {d s : Nat} {h : re_H} {Q : Nat → Value → re_H → Prop} {a0 : Nat} {x1 : Int32} {v2 : Value} (r2 : re_R v2) {x3 : Int32}
    (K1 : x3 < 0 → wp SC 136 d s 48 [] [] h Q) (K2 : ¬ x3 < 0 → wp SC 136 d s 34 [(0, .ref a0), (1, .int x1), (2, v2), (3, .int x3)] [] h Q) : wp SC 136 d s 30 [(0, .ref a0), (1, .int x1), (2, v2), (3, .int x3)] [] h Q := by
  refine wp_run 1 (pc' := 31) (lv' := [(0, .ref a0), (1, .int x1), (2, v2), (3, .int x3)]) (st' := [.int x3]) rfl ?_
  exact wp_if ⟨rfl, rfl⟩ rfl (fun hc => wp_weak (re_sb_nil _) (K1 (ic1_lt hc))) (fun hc => wp_weak (re_sb_at rfl (re_sb_at rfl (re_sb_at rfl (re_sb_at rfl (re_sb_nil _))))) (K2 (ic0_lt hc)))
theorem B136_34 {SC : List Value} {d s : Nat} {h : re_H} {Q : Nat → Value → re_H → Prop} {a0 : Nat} {x1 : Int32} {v2 : Value} (r2 : re_R v2) {x3 : Int32}
    {ae1 : Nat} (e2 : nb_fd h a0 2 1 (.ref ae1)) {w : List Value} {i : Nat} (e : re_hg h ae1 = some (100, w)) (hx : x3 = i32 i) (hi : i < 2147483648) (hl : i < w.length) (K : wp SC 136 d s 41 [(0, .ref a0), (2, v2), (3, .int x3)] [] (re_hw h ae1 (100, w.set i (.int x1))) Q) : wp SC 136 d s 34 [(0, .ref a0), (1, .int x1), (2, v2), (3, .int x3)] [] h Q := by
  refine wp_run 1 (pc' := 35) (lv' := [(0, .ref a0), (1, .int x1), (2, v2), (3, .int x3)]) (st' := [.ref a0]) rfl ?_
  obtain ⟨w2, e2a, e2b⟩ := e2
  refine wp_gf ⟨rfl, rfl⟩ rfl e2a e2b ?_
  refine wp_run 2 (pc' := 40) (lv' := [(0, .ref a0), (1, .int x1), (2, v2), (3, .int x3)]) (st' := [.int x1, .int x3, .ref ae1]) rfl ?_
  exact wp_ias ⟨rfl, rfl⟩ e rfl hx hi hl (wp_weak (re_sb_at rfl (re_sb_at rfl (re_sb_at rfl (re_sb_nil _)))) K)
theorem B136_41 {SC : List Value} {d s : Nat} {h : re_H} {Q : Nat → Value → re_H → Prop} {a0 : Nat} {v2 : Value} (r2 : re_R v2) {x3 : Int32}
    {ae1 : Nat} (e2 : nb_fd h a0 2 2 (.ref ae1)) {w : List Value} {i : Nat} (e : re_hg h ae1 = some (103, w)) (hx : x3 = i32 i) (hi : i < 2147483648) (hl : i < w.length) (hv : v2 = .null ∨ ∃ (b : Nat) (ws : List Value), v2 = .ref b ∧ re_hg h b = some (9, ws)) (K : wp SC 136 d s 48 [] [] (re_hw h ae1 (103, w.set i (v2))) Q) : wp SC 136 d s 41 [(0, .ref a0), (2, v2), (3, .int x3)] [] h Q := by
  refine wp_run 1 (pc' := 42) (lv' := [(0, .ref a0), (2, v2), (3, .int x3)]) (st' := [.ref a0]) rfl ?_
  obtain ⟨w2, e2a, e2b⟩ := e2
  refine wp_gf ⟨rfl, rfl⟩ rfl e2a e2b ?_
  refine wp_run 1 (pc' := 46) (lv' := [(0, .ref a0), (2, v2), (3, .int x3)]) (st' := [.int x3, .ref ae1]) rfl ?_
  refine wp_alR (ins := .aload_n 2) (k := 2) (pc' := 47) ⟨rfl, rfl⟩ (Or.inr ⟨_, rfl, rfl, rfl⟩) rfl r2 ?_
  exact wp_aas ⟨rfl, rfl⟩ e ⟨by decide, by decide⟩ hx hi hl (hv.elim Or.inl (fun z => by obtain ⟨b, ws, z1, z2⟩ := z; exact Or.inr ⟨b, _, ws, z1, z2, by decide⟩)) (wp_weak (re_sb_nil _) K)
theorem B136_48 {SC : List Value} {d s : Nat} {h : re_H} {Q : Nat → Value → re_H → Prop} 
    (K : Q 0 .null h) : wp SC 136 d s 48 [] [] h Q := by
  exact wp_retv ⟨rfl, rfl⟩ rfl K
theorem B137_0 {SC : List Value} {d s : Nat} {h : re_H} {Q : Nat → Value → re_H → Prop} {a0 : Nat} {x1 : Int32}
    {xe1 : Int32} (e2 : nb_fd h a0 2 0 (.int xe1)) (K1 : ¬ xe1 = 0 → wp SC 137 d s 8 [(0, .ref a0), (1, .int x1)] [] h Q) (K2 : xe1 = 0 → wp SC 137 d s 7 [] [] h Q) : wp SC 137 d s 0 [(0, .ref a0), (1, .int x1)] [] h Q := by
  refine wp_run 1 (pc' := 1) (lv' := [(0, .ref a0), (1, .int x1)]) (st' := [.ref a0]) rfl ?_
  obtain ⟨w2, e2a, e2b⟩ := e2
  refine wp_gf ⟨rfl, rfl⟩ rfl e2a e2b ?_
  exact wp_if ⟨rfl, rfl⟩ rfl (fun hc => wp_weak (re_sb_at rfl (re_sb_at rfl (re_sb_nil _))) (K1 (ic1_ne hc))) (fun hc => wp_weak (re_sb_nil _) (K2 (ic0_ne hc)))
theorem B137_7 {SC : List Value} {d s : Nat} {h : re_H} {Q : Nat → Value → re_H → Prop} 
    (K : Q 0 .null h) : wp SC 137 d s 7 [] [] h Q := by
  exact wp_retv ⟨rfl, rfl⟩ rfl K
theorem B137_8 {SC : List Value} {d s : Nat} {h : re_H} {Q : Nat → Value → re_H → Prop} {a0 : Nat} {x1 : Int32}
    {xe1 : Int32} (e2 : nb_fd h a0 2 0 (.int xe1)) {w : List Value} (e : re_hg h a0 = some (2, w)) (hk : 0 < w.length) (K : wp SC 137 d s 18 [(0, .ref a0), (1, .int x1)] [] (re_hw h a0 (2, w.set 0 (.int (xe1 - (i32 1))))) Q) : wp SC 137 d s 8 [(0, .ref a0), (1, .int x1)] [] h Q := by
  refine wp_run 2 (pc' := 10) (lv' := [(0, .ref a0), (1, .int x1)]) (st' := [.ref a0, .ref a0]) rfl ?_
  obtain ⟨w2, e2a, e2b⟩ := e2
  refine wp_gf ⟨rfl, rfl⟩ rfl e2a e2b ?_
  refine wp_run 2 (pc' := 15) (lv' := [(0, .ref a0), (1, .int x1)]) (st' := [.int (xe1 - (i32 1)), .ref a0]) rfl ?_
  exact wp_pf ⟨rfl, rfl⟩ rfl (Or.inl rfl) e hk (fit_i _) (wp_weak (re_sb_at rfl (re_sb_at rfl (re_sb_nil _))) K)
theorem B137_18 {SC : List Value} {d s : Nat} {h : re_H} {Q : Nat → Value → re_H → Prop} {a0 : Nat} {x1 : Int32}
    (K : wp SC 137 d s 20 [(0, .ref a0), (2, .int x1)] [] h Q) : wp SC 137 d s 18 [(0, .ref a0), (1, .int x1)] [] h Q := by
  refine wp_run 2 (pc' := 20) (lv' := [(2, .int x1), (0, .ref a0), (1, .int x1)]) (st' := []) rfl ?_
  exact wp_weak (re_sb_at rfl (re_sb_at rfl (re_sb_nil _))) K
theorem B137_20 {SC : List Value} {d s : Nat} {h : re_H} {Q : Nat → Value → re_H → Prop} {a0 : Nat} {x2 : Int32}
    {xe1 : Int32} (e2 : nb_fd h a0 2 0 (.int xe1)) (K1 : ¬ x2 < xe1 → wp SC 137 d s 62 [(0, .ref a0)] [] h Q) (K2 : x2 < xe1 → wp SC 137 d s 28 [(0, .ref a0), (2, .int x2)] [] h Q) : wp SC 137 d s 20 [(0, .ref a0), (2, .int x2)] [] h Q := by
  refine wp_run 2 (pc' := 22) (lv' := [(0, .ref a0), (2, .int x2)]) (st' := [.ref a0, .int x2]) rfl ?_
  obtain ⟨w2, e2a, e2b⟩ := e2
  refine wp_gf ⟨rfl, rfl⟩ rfl e2a e2b ?_
  exact wp_cmp ⟨rfl, rfl⟩ rfl (fun hc => wp_weak (re_sb_at rfl (re_sb_nil _)) (K1 (ic1_ge hc))) (fun hc => wp_weak (re_sb_at rfl (re_sb_at rfl (re_sb_nil _))) (K2 (ic0_ge hc)))
theorem B137_28 {SC : List Value} {d s : Nat} {h : re_H} {Q : Nat → Value → re_H → Prop} {a0 : Nat} {x2 : Int32}
    {ae1 : Nat} (e2 : nb_fd h a0 2 1 (.ref ae1)) {ae3 : Nat} (e4 : nb_fd h a0 2 1 (.ref ae3)) {xe5 : Int32} (e6 : nb_ar h ae3 100 (x2 + (i32 1)) (.int xe5)) {w : List Value} {i : Nat} (e : re_hg h ae1 = some (100, w)) (hx : x2 = i32 i) (hi : i < 2147483648) (hl : i < w.length) (K : wp SC 137 d s 42 [(0, .ref a0), (2, .int x2)] [] (re_hw h ae1 (100, w.set i (.int xe5))) Q) : wp SC 137 d s 28 [(0, .ref a0), (2, .int x2)] [] h Q := by
  refine wp_run 1 (pc' := 29) (lv' := [(0, .ref a0), (2, .int x2)]) (st' := [.ref a0]) rfl ?_
  obtain ⟨w2, e2a, e2b⟩ := e2
  refine wp_gf ⟨rfl, rfl⟩ rfl e2a e2b ?_
  refine wp_run 2 (pc' := 34) (lv' := [(0, .ref a0), (2, .int x2)]) (st' := [.ref a0, .int x2, .ref ae1]) rfl ?_
  obtain ⟨w4, e4a, e4b⟩ := e4
  refine wp_gf ⟨rfl, rfl⟩ rfl e4a e4b ?_
  refine wp_run 3 (pc' := 40) (lv' := [(0, .ref a0), (2, .int x2)]) (st' := [.int (x2 + (i32 1)), .ref ae3, .int x2, .ref ae1]) rfl ?_
  obtain ⟨w6, i6, e6a, e6x, e6i, e6v⟩ := e6
  refine wp_ial ⟨rfl, rfl⟩ e6a rfl e6x e6i e6v ?_
  exact wp_ias ⟨rfl, rfl⟩ e rfl hx hi hl (wp_weak (re_sb_at rfl (re_sb_at rfl (re_sb_nil _))) K)
theorem B137_42 {SC : List Value} {d s : Nat} {h : re_H} {Q : Nat → Value → re_H → Prop} {a0 : Nat} {x2 : Int32}
    {ae1 : Nat} (e2 : nb_fd h a0 2 2 (.ref ae1)) {ae3 : Nat} (e4 : nb_fd h a0 2 2 (.ref ae3)) {ve5 : Value} (re5 : re_R ve5) (e6 : nb_ar h ae3 103 (x2 + (i32 1)) (ve5)) {w : List Value} {i : Nat} (e : re_hg h ae1 = some (103, w)) (hx : x2 = i32 i) (hi : i < 2147483648) (hl : i < w.length) (hv : ve5 = .null ∨ ∃ (b : Nat) (ws : List Value), ve5 = .ref b ∧ re_hg h b = some (9, ws)) (K : wp SC 137 d s 56 [(0, .ref a0), (2, .int x2)] [] (re_hw h ae1 (103, w.set i (ve5))) Q) : wp SC 137 d s 42 [(0, .ref a0), (2, .int x2)] [] h Q := by
  refine wp_run 1 (pc' := 43) (lv' := [(0, .ref a0), (2, .int x2)]) (st' := [.ref a0]) rfl ?_
  obtain ⟨w2, e2a, e2b⟩ := e2
  refine wp_gf ⟨rfl, rfl⟩ rfl e2a e2b ?_
  refine wp_run 2 (pc' := 48) (lv' := [(0, .ref a0), (2, .int x2)]) (st' := [.ref a0, .int x2, .ref ae1]) rfl ?_
  obtain ⟨w4, e4a, e4b⟩ := e4
  refine wp_gf ⟨rfl, rfl⟩ rfl e4a e4b ?_
  refine wp_run 3 (pc' := 54) (lv' := [(0, .ref a0), (2, .int x2)]) (st' := [.int (x2 + (i32 1)), .ref ae3, .int x2, .ref ae1]) rfl ?_
  obtain ⟨w6, i6, e6a, e6x, e6i, e6v⟩ := e6
  refine wp_aal ⟨rfl, rfl⟩ e6a ⟨by decide, by decide⟩ e6x e6i e6v ?_
  exact wp_aas ⟨rfl, rfl⟩ e ⟨by decide, by decide⟩ hx hi hl (hv.elim Or.inl (fun z => by obtain ⟨b, ws, z1, z2⟩ := z; exact Or.inr ⟨b, _, ws, z1, z2, by decide⟩)) (wp_weak (re_sb_at rfl (re_sb_at rfl (re_sb_nil _))) K)
theorem B137_56 {SC : List Value} {d s : Nat} {h : re_H} {Q : Nat → Value → re_H → Prop} {a0 : Nat} {x2 : Int32}
    (K : wp SC 137 d s 20 [(0, .ref a0), (2, .int (x2 + (i32 1)))] [] h Q) : wp SC 137 d s 56 [(0, .ref a0), (2, .int x2)] [] h Q := by
  refine wp_run 2 (pc' := 20) (lv' := [(2, .int (x2 + (i32 1))), (0, .ref a0)]) (st' := []) rfl ?_
  exact wp_weak (re_sb_at rfl (re_sb_at rfl (re_sb_nil _))) K
theorem B137_62 {SC : List Value} {d s : Nat} {h : re_H} {Q : Nat → Value → re_H → Prop} {a0 : Nat}
    {ae1 : Nat} (e2 : nb_fd h a0 2 2 (.ref ae1)) {xe3 : Int32} (e4 : nb_fd h a0 2 0 (.int xe3)) {w : List Value} {i : Nat} (e : re_hg h ae1 = some (103, w)) (hx : xe3 = i32 i) (hi : i < 2147483648) (hl : i < w.length) (K : wp SC 137 d s 72 [] [] (re_hw h ae1 (103, w.set i (.null))) Q) : wp SC 137 d s 62 [(0, .ref a0)] [] h Q := by
  refine wp_run 1 (pc' := 63) (lv' := [(0, .ref a0)]) (st' := [.ref a0]) rfl ?_
  obtain ⟨w2, e2a, e2b⟩ := e2
  refine wp_gf ⟨rfl, rfl⟩ rfl e2a e2b ?_
  refine wp_run 1 (pc' := 67) (lv' := [(0, .ref a0)]) (st' := [.ref a0, .ref ae1]) rfl ?_
  obtain ⟨w4, e4a, e4b⟩ := e4
  refine wp_gf ⟨rfl, rfl⟩ rfl e4a e4b ?_
  refine wp_run 1 (pc' := 71) (lv' := [(0, .ref a0)]) (st' := [.null, .int xe3, .ref ae1]) rfl ?_
  exact wp_aas ⟨rfl, rfl⟩ e ⟨by decide, by decide⟩ hx hi hl (Or.inl rfl) (wp_weak (re_sb_nil _) K)
theorem B137_72 {SC : List Value} {d s : Nat} {h : re_H} {Q : Nat → Value → re_H → Prop} 
    (K : Q 0 .null h) : wp SC 137 d s 72 [] [] h Q := by
  exact wp_retv ⟨rfl, rfl⟩ rfl K
theorem B138_0 {SC : List Value} {d s : Nat} {h : re_H} {Q : Nat → Value → re_H → Prop} {a0 : Nat}
    {w : List Value} (e : re_hg h a0 = some (2, w)) (hk : 0 < w.length) (K : wp SC 138 d s 5 [(0, .ref a0)] [] (re_hw h a0 (2, w.set 0 (.int (i32 0)))) Q) : wp SC 138 d s 0 [(0, .ref a0)] [] h Q := by
  refine wp_run 2 (pc' := 2) (lv' := [(0, .ref a0)]) (st' := [.int (i32 0), .ref a0]) rfl ?_
  exact wp_pf ⟨rfl, rfl⟩ rfl (Or.inl rfl) e hk (fit_i _) (wp_weak (re_sb_at rfl (re_sb_nil _)) K)
theorem B138_5 {SC : List Value} {d s : Nat} {h : re_H} {Q : Nat → Value → re_H → Prop} {a0 : Nat}
    (K : wp SC 138 d s 7 [(0, .ref a0), (1, .int (i32 0))] [] h Q) : wp SC 138 d s 5 [(0, .ref a0)] [] h Q := by
  refine wp_run 2 (pc' := 7) (lv' := [(1, .int (i32 0)), (0, .ref a0)]) (st' := []) rfl ?_
  exact wp_weak (re_sb_at rfl (re_sb_at rfl (re_sb_nil _))) K
theorem B138_7 {SC : List Value} {d s : Nat} {h : re_H} {Q : Nat → Value → re_H → Prop} {a0 : Nat} {x1 : Int32}
    (K1 : ¬ x1 < (i32 4) → wp SC 138 d s 25 [] [] h Q) (K2 : x1 < (i32 4) → wp SC 138 d s 12 [(0, .ref a0), (1, .int x1)] [] h Q) : wp SC 138 d s 7 [(0, .ref a0), (1, .int x1)] [] h Q := by
  refine wp_run 2 (pc' := 9) (lv' := [(0, .ref a0), (1, .int x1)]) (st' := [.int (i32 4), .int x1]) rfl ?_
  exact wp_cmp ⟨rfl, rfl⟩ rfl (fun hc => wp_weak (re_sb_nil _) (K1 (ic1_ge hc))) (fun hc => wp_weak (re_sb_at rfl (re_sb_at rfl (re_sb_nil _))) (K2 (ic0_ge hc)))
theorem B138_12 {SC : List Value} {d s : Nat} {h : re_H} {Q : Nat → Value → re_H → Prop} {a0 : Nat} {x1 : Int32}
    {ae1 : Nat} (e2 : nb_fd h a0 2 2 (.ref ae1)) {w : List Value} {i : Nat} (e : re_hg h ae1 = some (103, w)) (hx : x1 = i32 i) (hi : i < 2147483648) (hl : i < w.length) (K : wp SC 138 d s 19 [(0, .ref a0), (1, .int x1)] [] (re_hw h ae1 (103, w.set i (.null))) Q) : wp SC 138 d s 12 [(0, .ref a0), (1, .int x1)] [] h Q := by
  refine wp_run 1 (pc' := 13) (lv' := [(0, .ref a0), (1, .int x1)]) (st' := [.ref a0]) rfl ?_
  obtain ⟨w2, e2a, e2b⟩ := e2
  refine wp_gf ⟨rfl, rfl⟩ rfl e2a e2b ?_
  refine wp_run 2 (pc' := 18) (lv' := [(0, .ref a0), (1, .int x1)]) (st' := [.null, .int x1, .ref ae1]) rfl ?_
  exact wp_aas ⟨rfl, rfl⟩ e ⟨by decide, by decide⟩ hx hi hl (Or.inl rfl) (wp_weak (re_sb_at rfl (re_sb_at rfl (re_sb_nil _))) K)
theorem B138_19 {SC : List Value} {d s : Nat} {h : re_H} {Q : Nat → Value → re_H → Prop} {a0 : Nat} {x1 : Int32}
    (K : wp SC 138 d s 7 [(0, .ref a0), (1, .int (x1 + (i32 1)))] [] h Q) : wp SC 138 d s 19 [(0, .ref a0), (1, .int x1)] [] h Q := by
  refine wp_run 2 (pc' := 7) (lv' := [(1, .int (x1 + (i32 1))), (0, .ref a0)]) (st' := []) rfl ?_
  exact wp_weak (re_sb_at rfl (re_sb_at rfl (re_sb_nil _))) K
theorem B138_25 {SC : List Value} {d s : Nat} {h : re_H} {Q : Nat → Value → re_H → Prop} 
    (K : Q 0 .null h) : wp SC 138 d s 25 [] [] h Q := by
  exact wp_retv ⟨rfl, rfl⟩ rfl K
theorem B139_0 {SC : List Value} {d s : Nat} {h : re_H} {Q : Nat → Value → re_H → Prop} {a0 : Nat}
    {c : Nat} {w : List Value} (eg : re_hg h a0 = some (c, w)) (ec : c = 2) (K : wp SC 130 d 0 0 [(0, .ref a0)] [] h (wp_ret SC 139 (d + 1) s 4 [(0, .ref a0)] [] Q)) : wp SC 139 (d + 1) s 0 [(0, .ref a0)] [] h Q := by
  refine wp_run 1 (pc' := 1) (lv' := [(0, .ref a0)]) (st' := [.ref a0]) rfl ?_
  have eA : lv_args 0 (.ref a0 :: [].reverse) = [(0, .ref a0)] := by simp [lv_args, vc_i, vc_l, vc_r, vc_n, vc_a]
  refine wp_callV (ar := []) (rest := []) (s1 := 0) (s2 := s) (d' := d) ⟨rfl, rfl⟩ rfl (Or.inl rfl)  (by simp [re_cat, vc_i, vc_l, vc_r, vc_n, vc_a]) (by rw [show re_cat (.ref a0 :: [].reverse) = 1 from by simp [re_cat, vc_i, vc_l, vc_r, vc_n, vc_a]]; decide) (by decide) rfl eg ec rfl (Nat.le_of_eq (Nat.zero_add s)) ?_
  rw [eA]
  exact wp_mono K (fun k v h' z => wp_ret_weak (re_sb_at rfl (re_sb_nil _)) z)
theorem B139_4 {SC : List Value} {d s : Nat} {h : re_H} {Q : Nat → Value → re_H → Prop} {a0 : Nat} {xs0 : Int32}
    (K : wp SC 139 d s 7 [(0, .ref a0), (1, .int xs0), (2, .int (i32 0))] [] h Q) : wp SC 139 d s 4 [(0, .ref a0)] [.int xs0] h Q := by
  refine wp_run 3 (pc' := 7) (lv' := [(2, .int (i32 0)), (1, .int xs0), (0, .ref a0)]) (st' := []) rfl ?_
  exact wp_weak (re_sb_at rfl (re_sb_at rfl (re_sb_at rfl (re_sb_nil _)))) K
theorem B139_7 {SC : List Value} {d s : Nat} {h : re_H} {Q : Nat → Value → re_H → Prop} {a0 : Nat} {x1 : Int32} {x2 : Int32}
    {xe1 : Int32} (e2 : nb_fd h a0 2 0 (.int xe1)) (K1 : ¬ x2 < xe1 → wp SC 139 d s 46 [(1, .int x1)] [] h Q) (K2 : x2 < xe1 → wp SC 139 d s 15 [(0, .ref a0), (1, .int x1), (2, .int x2)] [] h Q) : wp SC 139 d s 7 [(0, .ref a0), (1, .int x1), (2, .int x2)] [] h Q := by
  refine wp_run 2 (pc' := 9) (lv' := [(0, .ref a0), (1, .int x1), (2, .int x2)]) (st' := [.ref a0, .int x2]) rfl ?_
  obtain ⟨w2, e2a, e2b⟩ := e2
  refine wp_gf ⟨rfl, rfl⟩ rfl e2a e2b ?_
  exact wp_cmp ⟨rfl, rfl⟩ rfl (fun hc => wp_weak (re_sb_at rfl (re_sb_nil _)) (K1 (ic1_ge hc))) (fun hc => wp_weak (re_sb_at rfl (re_sb_at rfl (re_sb_at rfl (re_sb_nil _)))) (K2 (ic0_ge hc)))
theorem B139_15 {SC : List Value} {d s : Nat} {h : re_H} {Q : Nat → Value → re_H → Prop} {a0 : Nat} {x1 : Int32} {x2 : Int32}
    {ae1 : Nat} (e2 : nb_fd h a0 2 2 (.ref ae1)) {ve3 : Value} (re3 : re_R ve3) (e4 : nb_ar h ae1 103 x2 (ve3)) (K1 : ve3 = .null → wp SC 139 d s 25 [(0, .ref a0), (2, .int x2)] [.int x1] h Q) (K2 : ∀ b5, ve3 = .ref b5 → wp SC 139 d s 29 [(0, .ref a0), (2, .int x2)] [.int x1] h Q) : wp SC 139 d s 15 [(0, .ref a0), (1, .int x1), (2, .int x2)] [] h Q := by
  refine wp_run 2 (pc' := 17) (lv' := [(0, .ref a0), (1, .int x1), (2, .int x2)]) (st' := [.ref a0, .int x1]) rfl ?_
  obtain ⟨w2, e2a, e2b⟩ := e2
  refine wp_gf ⟨rfl, rfl⟩ rfl e2a e2b ?_
  refine wp_run 1 (pc' := 21) (lv' := [(0, .ref a0), (1, .int x1), (2, .int x2)]) (st' := [.int x2, .ref ae1, .int x1]) rfl ?_
  obtain ⟨w4, i4, e4a, e4x, e4i, e4v⟩ := e4
  refine wp_aal ⟨rfl, rfl⟩ e4a ⟨by decide, by decide⟩ e4x e4i e4v ?_
  exact wp_ifnn ⟨rfl, rfl⟩ rfl re3 (fun bb hc => by subst hc; exact wp_weak (re_sb_at rfl (re_sb_at rfl (re_sb_nil _))) (K2 bb rfl)) (fun hc => by subst hc; exact wp_weak (re_sb_at rfl (re_sb_at rfl (re_sb_nil _))) (K1 rfl))
theorem B139_25 {SC : List Value} {d s : Nat} {h : re_H} {Q : Nat → Value → re_H → Prop} {a0 : Nat} {x2 : Int32} {xs0 : Int32}
    (K : wp SC 139 d s 38 [(0, .ref a0), (2, .int x2)] [.int (i32 0), .int xs0] h Q) : wp SC 139 d s 25 [(0, .ref a0), (2, .int x2)] [.int xs0] h Q := by
  refine wp_run 2 (pc' := 38) (lv' := [(0, .ref a0), (2, .int x2)]) (st' := [.int (i32 0), .int xs0]) rfl ?_
  exact wp_weak (re_sb_at rfl (re_sb_at rfl (re_sb_nil _))) K
theorem B139_29 {SC : List Value} {d s : Nat} {h : re_H} {Q : Nat → Value → re_H → Prop} {a0 : Nat} {x2 : Int32} {xs0 : Int32}
    {ae1 : Nat} (e2 : nb_fd h a0 2 2 (.ref ae1)) {ve3 : Value} (re3 : re_R ve3) (e4 : nb_ar h ae1 103 x2 (ve3)) {b5 : Nat} (n5 : ve3 = .ref b5) {xe6 : Int32} (e7 : nb_fd h b5 9 8 (.int xe6)) (K : wp SC 139 d s 38 [(0, .ref a0), (2, .int x2)] [.int xe6, .int xs0] h Q) : wp SC 139 d s 29 [(0, .ref a0), (2, .int x2)] [.int xs0] h Q := by
  refine wp_run 1 (pc' := 30) (lv' := [(0, .ref a0), (2, .int x2)]) (st' := [.ref a0, .int xs0]) rfl ?_
  obtain ⟨w2, e2a, e2b⟩ := e2
  refine wp_gf ⟨rfl, rfl⟩ rfl e2a e2b ?_
  refine wp_run 1 (pc' := 34) (lv' := [(0, .ref a0), (2, .int x2)]) (st' := [.int x2, .ref ae1, .int xs0]) rfl ?_
  obtain ⟨w4, i4, e4a, e4x, e4i, e4v⟩ := e4
  refine wp_aal ⟨rfl, rfl⟩ e4a ⟨by decide, by decide⟩ e4x e4i e4v ?_
  subst n5
  obtain ⟨w7, e7a, e7b⟩ := e7
  refine wp_gf ⟨rfl, rfl⟩ rfl e7a e7b ?_
  exact wp_weak (re_sb_at rfl (re_sb_at rfl (re_sb_nil _))) K
theorem B139_38 {SC : List Value} {d s : Nat} {h : re_H} {Q : Nat → Value → re_H → Prop} {a0 : Nat} {x2 : Int32} {xs0 : Int32} {xs1 : Int32}
    (K : wp SC 139 d s 7 [(0, .ref a0), (1, .int (xs1 ||| xs0)), (2, .int (x2 + (i32 1)))] [] h Q) : wp SC 139 d s 38 [(0, .ref a0), (2, .int x2)] [.int xs0, .int xs1] h Q := by
  refine wp_run 4 (pc' := 7) (lv' := [(2, .int (x2 + (i32 1))), (1, .int (xs1 ||| xs0)), (0, .ref a0)]) (st' := []) rfl ?_
  exact wp_weak (re_sb_at rfl (re_sb_at rfl (re_sb_at rfl (re_sb_nil _)))) K
theorem B139_46 {SC : List Value} {d s : Nat} {h : re_H} {Q : Nat → Value → re_H → Prop} {x1 : Int32}
    (K : Q 1 (.int x1) h) : wp SC 139 d s 46 [(1, .int x1)] [] h Q := by
  refine wp_run 1 (pc' := 47) (lv' := [(1, .int x1)]) (st' := [.int x1]) rfl ?_
  exact wp_reti ⟨rfl, rfl⟩ rfl K
theorem B140_0 {SC : List Value} {d s : Nat} {h : re_H} {Q : Nat → Value → re_H → Prop} {a0 : Nat} {x1 : Int32} {x2 : Int32}
    (K : wp SC 140 d s 5 [(0, .ref a0), (1, .int x1), (2, .int x2), (3, .int (i32 0)), (4, .int (i32 0))] [] h Q) : wp SC 140 d s 0 [(0, .ref a0), (1, .int x1), (2, .int x2)] [] h Q := by
  refine wp_run 4 (pc' := 5) (lv' := [(4, .int (i32 0)), (3, .int (i32 0)), (0, .ref a0), (1, .int x1), (2, .int x2)]) (st' := []) rfl ?_
  exact wp_weak (re_sb_at rfl (re_sb_at rfl (re_sb_at rfl (re_sb_at rfl (re_sb_at rfl (re_sb_nil _)))))) K
theorem B140_5 {SC : List Value} {d s : Nat} {h : re_H} {Q : Nat → Value → re_H → Prop} {a0 : Nat} {x1 : Int32} {x2 : Int32} {x3 : Int32} {x4 : Int32}
    {xe1 : Int32} (e2 : nb_fd h a0 2 0 (.int xe1)) (K1 : ¬ x4 < xe1 → wp SC 140 d s 75 [(3, .int x3)] [] h Q) (K2 : x4 < xe1 → wp SC 140 d s 14 [(0, .ref a0), (1, .int x1), (2, .int x2), (3, .int x3), (4, .int x4)] [] h Q) : wp SC 140 d s 5 [(0, .ref a0), (1, .int x1), (2, .int x2), (3, .int x3), (4, .int x4)] [] h Q := by
  refine wp_run 2 (pc' := 8) (lv' := [(0, .ref a0), (1, .int x1), (2, .int x2), (3, .int x3), (4, .int x4)]) (st' := [.ref a0, .int x4]) rfl ?_
  obtain ⟨w2, e2a, e2b⟩ := e2
  refine wp_gf ⟨rfl, rfl⟩ rfl e2a e2b ?_
  exact wp_cmp ⟨rfl, rfl⟩ rfl (fun hc => wp_weak (re_sb_at rfl (re_sb_nil _)) (K1 (ic1_ge hc))) (fun hc => wp_weak (re_sb_at rfl (re_sb_at rfl (re_sb_at rfl (re_sb_at rfl (re_sb_at rfl (re_sb_nil _)))))) (K2 (ic0_ge hc)))
theorem B140_14 {SC : List Value} {d s : Nat} {h : re_H} {Q : Nat → Value → re_H → Prop} {a0 : Nat} {x1 : Int32} {x2 : Int32} {x3 : Int32} {x4 : Int32}
    {ae1 : Nat} (e2 : nb_fd h a0 2 1 (.ref ae1)) {xe3 : Int32} (e4 : nb_ar h ae1 100 x4 (.int xe3)) (K1 : ¬ xe3 = x1 → wp SC 140 d s 36 [(0, .ref a0), (1, .int x1), (2, .int x2), (3, .int x3), (4, .int x4)] [] h Q) (K2 : xe3 = x1 → wp SC 140 d s 25 [(0, .ref a0), (1, .int x1), (2, .int x2), (3, .int x3), (4, .int x4)] [] h Q) : wp SC 140 d s 14 [(0, .ref a0), (1, .int x1), (2, .int x2), (3, .int x3), (4, .int x4)] [] h Q := by
  refine wp_run 1 (pc' := 15) (lv' := [(0, .ref a0), (1, .int x1), (2, .int x2), (3, .int x3), (4, .int x4)]) (st' := [.ref a0]) rfl ?_
  obtain ⟨w2, e2a, e2b⟩ := e2
  refine wp_gf ⟨rfl, rfl⟩ rfl e2a e2b ?_
  refine wp_run 1 (pc' := 20) (lv' := [(0, .ref a0), (1, .int x1), (2, .int x2), (3, .int x3), (4, .int x4)]) (st' := [.int x4, .ref ae1]) rfl ?_
  obtain ⟨w4, i4, e4a, e4x, e4i, e4v⟩ := e4
  refine wp_ial ⟨rfl, rfl⟩ e4a rfl e4x e4i e4v ?_
  refine wp_run 1 (pc' := 22) (lv' := [(0, .ref a0), (1, .int x1), (2, .int x2), (3, .int x3), (4, .int x4)]) (st' := [.int x1, .int xe3]) rfl ?_
  exact wp_cmp ⟨rfl, rfl⟩ rfl (fun hc => wp_weak (re_sb_at rfl (re_sb_at rfl (re_sb_at rfl (re_sb_at rfl (re_sb_at rfl (re_sb_nil _)))))) (K1 (ic1_ne hc))) (fun hc => wp_weak (re_sb_at rfl (re_sb_at rfl (re_sb_at rfl (re_sb_at rfl (re_sb_at rfl (re_sb_nil _)))))) (K2 (ic0_ne hc)))
theorem B140_25 {SC : List Value} {d s : Nat} {h : re_H} {Q : Nat → Value → re_H → Prop} {a0 : Nat} {x1 : Int32} {x2 : Int32} {x3 : Int32} {x4 : Int32}
    {ae1 : Nat} (e2 : nb_fd h a0 2 1 (.ref ae1)) {w : List Value} {i : Nat} (e : re_hg h ae1 = some (100, w)) (hx : x4 = i32 i) (hi : i < 2147483648) (hl : i < w.length) (K : wp SC 140 d s 33 [(0, .ref a0), (1, .int x1), (2, .int x2), (3, .int x3), (4, .int x4)] [] (re_hw h ae1 (100, w.set i (.int x2))) Q) : wp SC 140 d s 25 [(0, .ref a0), (1, .int x1), (2, .int x2), (3, .int x3), (4, .int x4)] [] h Q := by
  refine wp_run 1 (pc' := 26) (lv' := [(0, .ref a0), (1, .int x1), (2, .int x2), (3, .int x3), (4, .int x4)]) (st' := [.ref a0]) rfl ?_
  obtain ⟨w2, e2a, e2b⟩ := e2
  refine wp_gf ⟨rfl, rfl⟩ rfl e2a e2b ?_
  refine wp_run 2 (pc' := 32) (lv' := [(0, .ref a0), (1, .int x1), (2, .int x2), (3, .int x3), (4, .int x4)]) (st' := [.int x2, .int x4, .ref ae1]) rfl ?_
  exact wp_ias ⟨rfl, rfl⟩ e rfl hx hi hl (wp_weak (re_sb_at rfl (re_sb_at rfl (re_sb_at rfl (re_sb_at rfl (re_sb_at rfl (re_sb_nil _)))))) K)
theorem B140_33 {SC : List Value} {d s : Nat} {h : re_H} {Q : Nat → Value → re_H → Prop} {a0 : Nat} {x1 : Int32} {x2 : Int32} {x3 : Int32} {x4 : Int32}
    (K : wp SC 140 d s 36 [(0, .ref a0), (1, .int x1), (2, .int x2), (3, .int (x3 + (i32 1))), (4, .int x4)] [] h Q) : wp SC 140 d s 33 [(0, .ref a0), (1, .int x1), (2, .int x2), (3, .int x3), (4, .int x4)] [] h Q := by
  refine wp_run 1 (pc' := 36) (lv' := [(3, .int (x3 + (i32 1))), (0, .ref a0), (1, .int x1), (2, .int x2), (4, .int x4)]) (st' := []) rfl ?_
  exact wp_weak (re_sb_at rfl (re_sb_at rfl (re_sb_at rfl (re_sb_at rfl (re_sb_at rfl (re_sb_nil _)))))) K
theorem B140_36 {SC : List Value} {d s : Nat} {h : re_H} {Q : Nat → Value → re_H → Prop} {a0 : Nat} {x1 : Int32} {x2 : Int32} {x3 : Int32} {x4 : Int32}
    {ae1 : Nat} (e2 : nb_fd h a0 2 2 (.ref ae1)) {ve3 : Value} (re3 : re_R ve3) (e4 : nb_ar h ae1 103 x4 (ve3)) (K : wp SC 642 d 0 0 [(0, ve3), (1, .int x1)] [] h (wp_ret SC 140 (d + 1) s 48 [(0, .ref a0), (1, .int x1), (2, .int x2), (4, .int x4)] [.int x3] Q)) : wp SC 140 (d + 1) s 36 [(0, .ref a0), (1, .int x1), (2, .int x2), (3, .int x3), (4, .int x4)] [] h Q := by
  refine wp_run 2 (pc' := 38) (lv' := [(0, .ref a0), (1, .int x1), (2, .int x2), (3, .int x3), (4, .int x4)]) (st' := [.ref a0, .int x3]) rfl ?_
  obtain ⟨w2, e2a, e2b⟩ := e2
  refine wp_gf ⟨rfl, rfl⟩ rfl e2a e2b ?_
  refine wp_run 1 (pc' := 43) (lv' := [(0, .ref a0), (1, .int x1), (2, .int x2), (3, .int x3), (4, .int x4)]) (st' := [.int x4, .ref ae1, .int x3]) rfl ?_
  obtain ⟨w4, i4, e4a, e4x, e4i, e4v⟩ := e4
  refine wp_aal ⟨rfl, rfl⟩ e4a ⟨by decide, by decide⟩ e4x e4i e4v ?_
  refine wp_run 1 (pc' := 45) (lv' := [(0, .ref a0), (1, .int x1), (2, .int x2), (3, .int x3), (4, .int x4)]) (st' := [.int x1, ve3, .int x3]) rfl ?_
  have eA : lv_args 0 ([.int x1, ve3].reverse) = [(0, ve3), (1, .int x1)] := by simp [lv_args, vc_i, vc_l, vc_r, vc_n, vc_a, re_R_cat re3]
  refine wp_callS (ar := [.int x1, ve3]) (rest := [.int x3]) (s1 := 0) (s2 := s) (d' := d) ⟨rfl, rfl⟩ rfl (Or.inr (Or.inl rfl)) rfl (by simp [re_cat, vc_i, vc_l, vc_r, vc_n, vc_a]) (by rw [show re_cat ([.int x1, ve3].reverse) = 2 from by simp [re_cat, vc_i, vc_l, vc_r, vc_n, vc_a, re_R_cat re3]]; decide) (by decide) rfl rfl (Nat.le_of_eq (Nat.zero_add s)) ?_
  rw [eA]
  exact wp_mono K (fun k v h' z => wp_ret_weak (re_sb_at rfl (re_sb_at rfl (re_sb_at rfl (re_sb_at rfl (re_sb_nil _))))) z)
theorem B140_48 {SC : List Value} {d s : Nat} {h : re_H} {Q : Nat → Value → re_H → Prop} {a0 : Nat} {x1 : Int32} {x2 : Int32} {x4 : Int32} {xs0 : Int32} {xs1 : Int32}
    {ae1 : Nat} (e2 : nb_fd h a0 2 2 (.ref ae1)) {ae3 : Nat} (e4 : nb_fd h a0 2 2 (.ref ae3)) {ve5 : Value} (re5 : re_R ve5) (e6 : nb_ar h ae3 103 x4 (ve5)) (K : wp SC 644 d 0 0 [(0, ve5), (1, .int x1), (2, .int x2)] [] h (wp_ret SC 140 (d + 1) s 68 [(0, .ref a0), (1, .int x1), (2, .int x2), (3, .int (xs1 + xs0)), (4, .int x4)] [.int x4, .ref ae1] Q)) : wp SC 140 (d + 1) s 48 [(0, .ref a0), (1, .int x1), (2, .int x2), (4, .int x4)] [.int xs0, .int xs1] h Q := by
  refine wp_run 3 (pc' := 51) (lv' := [(3, .int (xs1 + xs0)), (0, .ref a0), (1, .int x1), (2, .int x2), (4, .int x4)]) (st' := [.ref a0]) rfl ?_
  obtain ⟨w2, e2a, e2b⟩ := e2
  refine wp_gf ⟨rfl, rfl⟩ rfl e2a e2b ?_
  refine wp_run 2 (pc' := 57) (lv' := [(3, .int (xs1 + xs0)), (0, .ref a0), (1, .int x1), (2, .int x2), (4, .int x4)]) (st' := [.ref a0, .int x4, .ref ae1]) rfl ?_
  obtain ⟨w4, e4a, e4b⟩ := e4
  refine wp_gf ⟨rfl, rfl⟩ rfl e4a e4b ?_
  refine wp_run 1 (pc' := 62) (lv' := [(3, .int (xs1 + xs0)), (0, .ref a0), (1, .int x1), (2, .int x2), (4, .int x4)]) (st' := [.int x4, .ref ae3, .int x4, .ref ae1]) rfl ?_
  obtain ⟨w6, i6, e6a, e6x, e6i, e6v⟩ := e6
  refine wp_aal ⟨rfl, rfl⟩ e6a ⟨by decide, by decide⟩ e6x e6i e6v ?_
  refine wp_run 2 (pc' := 65) (lv' := [(3, .int (xs1 + xs0)), (0, .ref a0), (1, .int x1), (2, .int x2), (4, .int x4)]) (st' := [.int x2, .int x1, ve5, .int x4, .ref ae1]) rfl ?_
  have eA : lv_args 0 ([.int x2, .int x1, ve5].reverse) = [(0, ve5), (1, .int x1), (2, .int x2)] := by simp [lv_args, vc_i, vc_l, vc_r, vc_n, vc_a, re_R_cat re5]
  refine wp_callS (ar := [.int x2, .int x1, ve5]) (rest := [.int x4, .ref ae1]) (s1 := 0) (s2 := s) (d' := d) ⟨rfl, rfl⟩ rfl (Or.inr (Or.inl rfl)) rfl (by simp [re_cat, vc_i, vc_l, vc_r, vc_n, vc_a]) (by rw [show re_cat ([.int x2, .int x1, ve5].reverse) = 3 from by simp [re_cat, vc_i, vc_l, vc_r, vc_n, vc_a, re_R_cat re5]]; decide) (by decide) rfl rfl (Nat.le_of_eq (Nat.zero_add s)) ?_
  rw [eA]
  exact wp_mono K (fun k v h' z => wp_ret_weak (re_sb_at rfl (re_sb_at rfl (re_sb_at rfl (re_sb_at rfl (re_sb_at rfl (re_sb_nil _)))))) z)
theorem B140_68 {SC : List Value} {d s : Nat} {h : re_H} {Q : Nat → Value → re_H → Prop} {a0 : Nat} {x1 : Int32} {x2 : Int32} {x3 : Int32} {x4 : Int32} {vs0 : Value} (rs0 : re_R vs0) {xs1 : Int32} {as2 : Nat}
    {w : List Value} {i : Nat} (e : re_hg h as2 = some (103, w)) (hx : xs1 = i32 i) (hi : i < 2147483648) (hl : i < w.length) (hv : vs0 = .null ∨ ∃ (b : Nat) (ws : List Value), vs0 = .ref b ∧ re_hg h b = some (9, ws)) (K : wp SC 140 d s 69 [(0, .ref a0), (1, .int x1), (2, .int x2), (3, .int x3), (4, .int x4)] [] (re_hw h as2 (103, w.set i (vs0))) Q) : wp SC 140 d s 68 [(0, .ref a0), (1, .int x1), (2, .int x2), (3, .int x3), (4, .int x4)] [vs0, .int xs1, .ref as2] h Q := by
  exact wp_aas ⟨rfl, rfl⟩ e ⟨by decide, by decide⟩ hx hi hl (hv.elim Or.inl (fun z => by obtain ⟨b, ws, z1, z2⟩ := z; exact Or.inr ⟨b, _, ws, z1, z2, by decide⟩)) (wp_weak (re_sb_at rfl (re_sb_at rfl (re_sb_at rfl (re_sb_at rfl (re_sb_at rfl (re_sb_nil _)))))) K)
theorem B140_69 {SC : List Value} {d s : Nat} {h : re_H} {Q : Nat → Value → re_H → Prop} {a0 : Nat} {x1 : Int32} {x2 : Int32} {x3 : Int32} {x4 : Int32}
    (K : wp SC 140 d s 5 [(0, .ref a0), (1, .int x1), (2, .int x2), (3, .int x3), (4, .int (x4 + (i32 1)))] [] h Q) : wp SC 140 d s 69 [(0, .ref a0), (1, .int x1), (2, .int x2), (3, .int x3), (4, .int x4)] [] h Q := by
  refine wp_run 2 (pc' := 5) (lv' := [(4, .int (x4 + (i32 1))), (0, .ref a0), (1, .int x1), (2, .int x2), (3, .int x3)]) (st' := []) rfl ?_
  exact wp_weak (re_sb_at rfl (re_sb_at rfl (re_sb_at rfl (re_sb_at rfl (re_sb_at rfl (re_sb_nil _)))))) K
theorem B140_75 {SC : List Value} {d s : Nat} {h : re_H} {Q : Nat → Value → re_H → Prop} {x3 : Int32}
    (K : Q 1 (.int x3) h) : wp SC 140 d s 75 [(3, .int x3)] [] h Q := by
  refine wp_run 1 (pc' := 76) (lv' := [(3, .int x3)]) (st' := [.int x3]) rfl ?_
  exact wp_reti ⟨rfl, rfl⟩ rfl K
