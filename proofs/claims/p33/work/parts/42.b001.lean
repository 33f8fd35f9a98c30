theorem B27_0 {SC : List Value} {d s : Nat} {h : re_H} {Q : Nat → Value → re_H → Prop} {a0 : Nat}
    {xe1 : Int32} (e2 : nb_fd h a0 0 10 (.int xe1)) (K1 : xe1 < (i32 4) → wp SC 27 d s 18 [(0, .ref a0)] [] h Q) (K2 : ¬ xe1 < (i32 4) → wp SC 27 d s 8 [] [] h Q) : wp SC 27 d s 0 [(0, .ref a0)] [] h Q := by
  refine wp_run 1 (pc' := 1) (lv' := [(0, .ref a0)]) (st' := [.ref a0]) rfl ?_
  obtain ⟨w2, e2a, e2b⟩ := e2
  refine wp_gf ⟨rfl, rfl⟩ rfl e2a e2b ?_
  refine wp_run 1 (pc' := 5) (lv' := [(0, .ref a0)]) (st' := [.int (i32 4), .int xe1]) rfl ?_
  exact wp_cmp ⟨rfl, rfl⟩ rfl (fun hc => wp_weak (re_sb_at rfl (re_sb_nil _)) (K1 (ic1_lt hc))) (fun hc => wp_weak (re_sb_nil _) (K2 (ic0_lt hc)))
theorem B27_8 {SC : List Value} {d s : Nat} {h : re_H} {Q : Nat → Value → re_H → Prop} 
    (hs : 0 < s) (K : Q 4 .null h) : wp SC 27 d s 8 [] [] h Q := by
  exact wp_throw rfl hs (by simp [re_cat, vc_i, vc_l, vc_r, vc_n, vc_a]) K
theorem B27_18 {SC : List Value} {d s : Nat} {h : re_H} {Q : Nat → Value → re_H → Prop} {a0 : Nat}
    (K : wp SC 27 d s 21 [(0, .ref a0)] [.ref h.1] (re_hq h (1, [.null, .null])) Q) : wp SC 27 d s 18 [(0, .ref a0)] [] h Q := by
  exact wp_new (vs := [.null, .null]) ⟨rfl, rfl⟩ rfl (by decide) (by decide) (wp_weak (re_sb_at rfl (re_sb_nil _)) K)
theorem B27_21 {SC : List Value} {d s : Nat} {h : re_H} {Q : Nat → Value → re_H → Prop} {a0 : Nat} {as0 : Nat}
    {c : Nat} {w : List Value} (eg : re_hg h as0 = some (c, w)) (ec : c = 1) (K : wp SC 64 d 0 0 [(0, .ref as0)] [] h (wp_ret SC 27 (d + 1) s 25 [(0, .ref a0)] [.ref as0] Q)) : wp SC 27 (d + 1) s 21 [(0, .ref a0)] [.ref as0] h Q := by
  refine wp_run 1 (pc' := 22) (lv' := [(0, .ref a0)]) (st' := [.ref as0, .ref as0]) rfl ?_
  have eA : lv_args 0 (.ref as0 :: [].reverse) = [(0, .ref as0)] := by simp [lv_args, vc_i, vc_l, vc_r, vc_n, vc_a]
  refine wp_callI (ar := []) (rest := [.ref as0]) (s1 := 0) (s2 := s) (d' := d) ⟨rfl, rfl⟩ rfl (Or.inl rfl)  (by simp [re_cat, vc_i, vc_l, vc_r, vc_n, vc_a]) (by rw [show re_cat (.ref as0 :: [].reverse) = 1 from by simp [re_cat, vc_i, vc_l, vc_r, vc_n, vc_a]]; decide) (by decide) rfl eg ec rfl (Nat.le_of_eq (Nat.zero_add s)) ?_
  rw [eA]
  exact wp_mono K (fun k v h' z => wp_ret_weak (re_sb_at rfl (re_sb_nil _)) z)
theorem B27_25 {SC : List Value} {d s : Nat} {h : re_H} {Q : Nat → Value → re_H → Prop} {a0 : Nat} {as0 : Nat}
    {ae1 : Nat} (e2 : nb_fd h a0 0 2 (.ref ae1)) {c : Nat} {w : List Value} (eg : re_hg h as0 = some (c, w)) (ec : c = 1) (K : wp SC 69 d 0 0 [(0, .ref as0), (1, .ref ae1)] [] h (wp_ret SC 27 (d + 1) s 34 [(0, .ref a0), (1, .ref as0)] [] Q)) : wp SC 27 (d + 1) s 25 [(0, .ref a0)] [.ref as0] h Q := by
  refine wp_run 3 (pc' := 28) (lv' := [(1, .ref as0), (0, .ref a0)]) (st' := [.ref a0, .ref as0]) rfl ?_
  obtain ⟨w2, e2a, e2b⟩ := e2
  refine wp_gf ⟨rfl, rfl⟩ rfl e2a e2b ?_
  have eA : lv_args 0 (.ref as0 :: [.ref ae1].reverse) = [(0, .ref as0), (1, .ref ae1)] := by simp [lv_args, vc_i, vc_l, vc_r, vc_n, vc_a]
  refine wp_callV (ar := [.ref ae1]) (rest := []) (s1 := 0) (s2 := s) (d' := d) ⟨rfl, rfl⟩ rfl (Or.inl rfl)  (by simp [re_cat, vc_i, vc_l, vc_r, vc_n, vc_a]) (by rw [show re_cat (.ref as0 :: [.ref ae1].reverse) = 2 from by simp [re_cat, vc_i, vc_l, vc_r, vc_n, vc_a]]; decide) (by decide) rfl eg ec rfl (Nat.le_of_eq (Nat.zero_add s)) ?_
  rw [eA]
  exact wp_mono K (fun k v h' z => wp_ret_weak (re_sb_at rfl (re_sb_at rfl (re_sb_nil _))) z)
theorem B27_34 {SC : List Value} {d s : Nat} {h : re_H} {Q : Nat → Value → re_H → Prop} {a0 : Nat} {a1 : Nat}
    {ae1 : Nat} (e2 : nb_fd h a0 0 9 (.ref ae1)) {xe3 : Int32} (e4 : nb_fd h a0 0 10 (.int xe3)) {w : List Value} {i : Nat} (e : re_hg h ae1 = some (107, w)) (hx : xe3 = i32 i) (hi : i < 2147483648) (hl : i < w.length) (hv : Value.ref a1 = .null ∨ ∃ (b : Nat) (ws : List Value), Value.ref a1 = .ref b ∧ re_hg h b = some (1, ws)) (K : wp SC 27 d s 44 [(0, .ref a0)] [] (re_hw h ae1 (107, w.set i (.ref a1))) Q) : wp SC 27 d s 34 [(0, .ref a0), (1, .ref a1)] [] h Q := by
  refine wp_run 1 (pc' := 35) (lv' := [(0, .ref a0), (1, .ref a1)]) (st' := [.ref a0]) rfl ?_
  obtain ⟨w2, e2a, e2b⟩ := e2
  refine wp_gf ⟨rfl, rfl⟩ rfl e2a e2b ?_
  refine wp_run 1 (pc' := 39) (lv' := [(0, .ref a0), (1, .ref a1)]) (st' := [.ref a0, .ref ae1]) rfl ?_
  obtain ⟨w4, e4a, e4b⟩ := e4
  refine wp_gf ⟨rfl, rfl⟩ rfl e4a e4b ?_
  refine wp_run 1 (pc' := 43) (lv' := [(0, .ref a0), (1, .ref a1)]) (st' := [.ref a1, .int xe3, .ref ae1]) rfl ?_
  exact wp_aas ⟨rfl, rfl⟩ e ⟨by decide, by decide⟩ hx hi hl (hv.elim Or.inl (fun z => by obtain ⟨b, ws, z1, z2⟩ := z; exact Or.inr ⟨b, _, ws, z1, z2, by decide⟩)) (wp_weak (re_sb_at rfl (re_sb_nil _)) K)
theorem B27_44 {SC : List Value} {d s : Nat} {h : re_H} {Q : Nat → Value → re_H → Prop} {a0 : Nat}
    {xe1 : Int32} (e2 : nb_fd h a0 0 10 (.int xe1)) {w : List Value} (e : re_hg h a0 = some (0, w)) (hk : 10 < w.length) (K : wp SC 27 d s 55 [] [.int xe1] (re_hw h a0 (0, w.set 10 (.int (xe1 + (i32 1))))) Q) : wp SC 27 d s 44 [(0, .ref a0)] [] h Q := by
  refine wp_run 2 (pc' := 46) (lv' := [(0, .ref a0)]) (st' := [.ref a0, .ref a0]) rfl ?_
  obtain ⟨w2, e2a, e2b⟩ := e2
  refine wp_gf ⟨rfl, rfl⟩ rfl e2a e2b ?_
  refine wp_run 3 (pc' := 52) (lv' := [(0, .ref a0)]) (st' := [.int (xe1 + (i32 1)), .ref a0, .int xe1]) rfl ?_
  exact wp_pf ⟨rfl, rfl⟩ rfl (Or.inl rfl) e hk (fit_i _) (wp_weak (re_sb_nil _) K)
theorem B27_55 {SC : List Value} {d s : Nat} {h : re_H} {Q : Nat → Value → re_H → Prop} {xs0 : Int32}
    (K : Q 1 (.int xs0) h) : wp SC 27 d s 55 [] [.int xs0] h Q := by
  exact wp_reti ⟨rfl, rfl⟩ rfl K
theorem B28_0 {SC : List Value} {d s : Nat} {h : re_H} {Q : Nat → Value → re_H → Prop} {a0 : Nat} {x1 : Int32} {x2 : Int32}
    {c : Nat} {w : List Value} (eg : re_hg h a0 = some (c, w)) (ec : c = 0) {s1 s2 : Nat} (hs : s1 + s2 ≤ s) (K : wp SC 29 d s1 0 [(0, .ref a0), (1, .int x1)] [] h (wp_ret SC 28 (d + 1) s2 5 [(0, .ref a0), (2, .int x2)] [] Q)) : wp SC 28 (d + 1) s 0 [(0, .ref a0), (1, .int x1), (2, .int x2)] [] h Q := by
  refine wp_run 2 (pc' := 2) (lv' := [(0, .ref a0), (1, .int x1), (2, .int x2)]) (st' := [.int x1, .ref a0]) rfl ?_
  have eA : lv_args 0 (.ref a0 :: [.int x1].reverse) = [(0, .ref a0), (1, .int x1)] := by simp [lv_args, vc_i, vc_l, vc_r, vc_n, vc_a]
  refine wp_callV (ar := [.int x1]) (rest := []) (s1 := s1) (s2 := s2) (d' := d) ⟨rfl, rfl⟩ rfl (Or.inl rfl)  (by simp [re_cat, vc_i, vc_l, vc_r, vc_n, vc_a]) (by rw [show re_cat (.ref a0 :: [.int x1].reverse) = 2 from by simp [re_cat, vc_i, vc_l, vc_r, vc_n, vc_a]]; decide) (by decide) rfl eg ec rfl hs ?_
  rw [eA]
  exact wp_mono K (fun k v h' z => wp_ret_weak (re_sb_at rfl (re_sb_at rfl (re_sb_nil _))) z)
theorem B28_5 {SC : List Value} {d s : Nat} {h : re_H} {Q : Nat → Value → re_H → Prop} {a0 : Nat} {x2 : Int32} {vs0 : Value} (rs0 : re_R vs0)
    (K1 : x2 < 0 → wp SC 28 d s 18 [] [] h Q) (K2 : ¬ x2 < 0 → wp SC 28 d s 10 [(0, .ref a0), (2, .int x2), (3, vs0)] [] h Q) : wp SC 28 d s 5 [(0, .ref a0), (2, .int x2)] [vs0] h Q := by
  refine wp_asR (ins := .astore_n 3) (k := 3) (pc' := 6) (lv' := [(3, vs0), (0, .ref a0), (2, .int x2)]) ⟨rfl, rfl⟩ (Or.inr ⟨_, rfl, rfl, rfl⟩) (by decide) rs0 rfl ?_
  refine wp_run 1 (pc' := 7) (lv' := [(3, vs0), (0, .ref a0), (2, .int x2)]) (st' := [.int x2]) rfl ?_
  exact wp_if ⟨rfl, rfl⟩ rfl (fun hc => wp_weak (re_sb_nil _) (K1 (ic1_lt hc))) (fun hc => wp_weak (re_sb_at rfl (re_sb_at rfl (re_sb_at rfl (re_sb_nil _)))) (K2 (ic0_lt hc)))
theorem B28_10 {SC : List Value} {d s : Nat} {h : re_H} {Q : Nat → Value → re_H → Prop} {a0 : Nat} {x2 : Int32} {v3 : Value} (r3 : re_R v3)
    {xe1 : Int32} (e2 : nb_fd h a0 0 3 (.int xe1)) (K1 : x2 < xe1 → wp SC 28 d s 28 [(0, .ref a0), (2, .int x2), (3, v3)] [] h Q) (K2 : ¬ x2 < xe1 → wp SC 28 d s 18 [] [] h Q) : wp SC 28 d s 10 [(0, .ref a0), (2, .int x2), (3, v3)] [] h Q := by
  refine wp_run 2 (pc' := 12) (lv' := [(0, .ref a0), (2, .int x2), (3, v3)]) (st' := [.ref a0, .int x2]) rfl ?_
  obtain ⟨w2, e2a, e2b⟩ := e2
  refine wp_gf ⟨rfl, rfl⟩ rfl e2a e2b ?_
  exact wp_cmp ⟨rfl, rfl⟩ rfl (fun hc => wp_weak (re_sb_at rfl (re_sb_at rfl (re_sb_at rfl (re_sb_nil _)))) (K1 (ic1_lt hc))) (fun hc => wp_weak (re_sb_nil _) (K2 (ic0_lt hc)))
theorem B28_18 {SC : List Value} {d s : Nat} {h : re_H} {Q : Nat → Value → re_H → Prop} 
    (hs : 0 < s) (K : Q 6 .null h) : wp SC 28 d s 18 [] [] h Q := by
  exact wp_throw rfl hs (by simp [re_cat, vc_i, vc_l, vc_r, vc_n, vc_a]) K
theorem B28_28 {SC : List Value} {d s : Nat} {h : re_H} {Q : Nat → Value → re_H → Prop} {a0 : Nat} {x2 : Int32} {v3 : Value} (r3 : re_R v3)
    {ae1 : Nat} (e2 : nb_fd h a0 0 2 (.ref ae1)) {c : Nat} {w : List Value} (eg : re_hg h ae1 = some (c, w)) (ec : c = 1) (K : wp SC 71 d 0 0 [(0, .ref ae1), (1, v3), (2, .int x2)] [] h (wp_ret SC 28 (d + 1) s 37 [(0, .ref a0), (2, .int x2), (3, v3)] [] Q)) : wp SC 28 (d + 1) s 28 [(0, .ref a0), (2, .int x2), (3, v3)] [] h Q := by
  refine wp_run 1 (pc' := 29) (lv' := [(0, .ref a0), (2, .int x2), (3, v3)]) (st' := [.ref a0]) rfl ?_
  obtain ⟨w2, e2a, e2b⟩ := e2
  refine wp_gf ⟨rfl, rfl⟩ rfl e2a e2b ?_
  refine wp_alR (ins := .aload_n 3) (k := 3) (pc' := 33) ⟨rfl, rfl⟩ (Or.inr ⟨_, rfl, rfl, rfl⟩) rfl r3 ?_
  refine wp_run 1 (pc' := 34) (lv' := [(0, .ref a0), (2, .int x2), (3, v3)]) (st' := [.int x2, v3, .ref ae1]) rfl ?_
  have eA : lv_args 0 (.ref ae1 :: [.int x2, v3].reverse) = [(0, .ref ae1), (1, v3), (2, .int x2)] := by simp [lv_args, vc_i, vc_l, vc_r, vc_n, vc_a, re_R_cat r3]
  refine wp_callV (ar := [.int x2, v3]) (rest := []) (s1 := 0) (s2 := s) (d' := d) ⟨rfl, rfl⟩ rfl (Or.inl rfl)  (by simp [re_cat, vc_i, vc_l, vc_r, vc_n, vc_a]) (by rw [show re_cat (.ref ae1 :: [.int x2, v3].reverse) = 3 from by simp [re_cat, vc_i, vc_l, vc_r, vc_n, vc_a, re_R_cat r3]]; decide) (by decide) rfl eg ec rfl (Nat.le_of_eq (Nat.zero_add s)) ?_
  rw [eA]
  exact wp_mono K (fun k v h' z => wp_ret_weak (re_sb_at rfl (re_sb_at rfl (re_sb_at rfl (re_sb_nil _)))) z)
theorem B28_37 {SC : List Value} {d s : Nat} {h : re_H} {Q : Nat → Value → re_H → Prop} {a0 : Nat} {x2 : Int32} {v3 : Value} (r3 : re_R v3) {xs0 : Int32}
    (K1 : xs0 = 0 → wp SC 28 d s 42 [(0, .ref a0), (2, .int x2), (3, v3)] [] h Q) (K2 : ¬ xs0 = 0 → wp SC 28 d s 40 [] [] h Q) : wp SC 28 d s 37 [(0, .ref a0), (2, .int x2), (3, v3)] [.int xs0] h Q := by
  exact wp_if ⟨rfl, rfl⟩ rfl (fun hc => wp_weak (re_sb_at rfl (re_sb_at rfl (re_sb_at rfl (re_sb_nil _)))) (K1 (ic1_eq hc))) (fun hc => wp_weak (re_sb_nil _) (K2 (ic0_eq hc)))
theorem B28_40 {SC : List Value} {d s : Nat} {h : re_H} {Q : Nat → Value → re_H → Prop} 
    (K : Q 1 (.int (i32 0)) h) : wp SC 28 d s 40 [] [] h Q := by
  refine wp_run 1 (pc' := 41) (lv' := []) (st' := [.int (i32 0)]) rfl ?_
  exact wp_retz ⟨rfl, rfl⟩ rfl (Or.inl rfl) K
theorem B28_42 {SC : List Value} {d s : Nat} {h : re_H} {Q : Nat → Value → re_H → Prop} {a0 : Nat} {x2 : Int32} {v3 : Value} (r3 : re_R v3)
    {ae1 : Nat} (e2 : nb_fd h a0 0 2 (.ref ae1)) {ae3 : Nat} (e4 : nb_fd h ae1 1 0 (.ref ae3)) {xe5 : Int32} (e6 : nb_ar h ae3 102 x2 (.int xe5)) {b7 : Nat} (n7 : v3 = .ref b7) {ae8 : Nat} (e9 : nb_fd h b7 1 0 (.ref ae8)) {xe10 : Int32} (e11 : nb_ar h ae8 102 x2 (.int xe10)) (K1 : xe5 = xe10 → wp SC 28 d s 68 [(0, .ref a0), (2, .int x2), (3, .ref b7)] [] h Q) (K2 : ¬ xe5 = xe10 → wp SC 28 d s 60 [(0, .ref a0), (2, .int x2), (3, .ref b7)] [] h Q) : wp SC 28 d s 42 [(0, .ref a0), (2, .int x2), (3, v3)] [] h Q := by
  refine wp_run 1 (pc' := 43) (lv' := [(0, .ref a0), (2, .int x2), (3, v3)]) (st' := [.ref a0]) rfl ?_
  obtain ⟨w2, e2a, e2b⟩ := e2
  refine wp_gf ⟨rfl, rfl⟩ rfl e2a e2b ?_
  obtain ⟨w4, e4a, e4b⟩ := e4
  refine wp_gf ⟨rfl, rfl⟩ rfl e4a e4b ?_
  refine wp_run 1 (pc' := 50) (lv' := [(0, .ref a0), (2, .int x2), (3, v3)]) (st' := [.int x2, .ref ae3]) rfl ?_
  obtain ⟨w6, i6, e6a, e6x, e6i, e6v⟩ := e6
  refine wp_bal ⟨rfl, rfl⟩ e6a rfl e6x e6i e6v ?_
  refine wp_alR (ins := .aload_n 3) (k := 3) (pc' := 52) ⟨rfl, rfl⟩ (Or.inr ⟨_, rfl, rfl, rfl⟩) rfl r3 ?_
  subst n7
  obtain ⟨w9, e9a, e9b⟩ := e9
  refine wp_gf ⟨rfl, rfl⟩ rfl e9a e9b ?_
  refine wp_run 1 (pc' := 56) (lv' := [(0, .ref a0), (2, .int x2), (3, .ref b7)]) (st' := [.int x2, .ref ae8, .int xe5]) rfl ?_
  obtain ⟨w11, i11, e11a, e11x, e11i, e11v⟩ := e11
  refine wp_bal ⟨rfl, rfl⟩ e11a rfl e11x e11i e11v ?_
  exact wp_cmp ⟨rfl, rfl⟩ rfl (fun hc => wp_weak (re_sb_at rfl (re_sb_at rfl (re_sb_at rfl (re_sb_nil _)))) (K1 (ic1_eq hc))) (fun hc => wp_weak (re_sb_at rfl (re_sb_at rfl (re_sb_at rfl (re_sb_nil _)))) (K2 (ic0_eq hc)))
theorem B28_60 {SC : List Value} {d s : Nat} {h : re_H} {Q : Nat → Value → re_H → Prop} {a0 : Nat} {x2 : Int32} {v3 : Value} (r3 : re_R v3)
    {ae1 : Nat} (e2 : nb_fd h a0 0 6 (.ref ae1)) {c : Nat} {w : List Value} (eg : re_hg h ae1 = some (c, w)) (ec : c = 8) (K : wp SC 521 d 0 0 [(0, .ref ae1), (1, .int x2)] [] h (wp_ret SC 28 (d + 1) s 68 [(0, .ref a0), (2, .int x2), (3, v3)] [] Q)) : wp SC 28 (d + 1) s 60 [(0, .ref a0), (2, .int x2), (3, v3)] [] h Q := by
  refine wp_run 1 (pc' := 61) (lv' := [(0, .ref a0), (2, .int x2), (3, v3)]) (st' := [.ref a0]) rfl ?_
  obtain ⟨w2, e2a, e2b⟩ := e2
  refine wp_gf ⟨rfl, rfl⟩ rfl e2a e2b ?_
  refine wp_run 1 (pc' := 65) (lv' := [(0, .ref a0), (2, .int x2), (3, v3)]) (st' := [.int x2, .ref ae1]) rfl ?_
  have eA : lv_args 0 (.ref ae1 :: [.int x2].reverse) = [(0, .ref ae1), (1, .int x2)] := by simp [lv_args, vc_i, vc_l, vc_r, vc_n, vc_a]
  refine wp_callV (ar := [.int x2]) (rest := []) (s1 := 0) (s2 := s) (d' := d) ⟨rfl, rfl⟩ rfl (Or.inl rfl)  (by simp [re_cat, vc_i, vc_l, vc_r, vc_n, vc_a]) (by rw [show re_cat (.ref ae1 :: [.int x2].reverse) = 2 from by simp [re_cat, vc_i, vc_l, vc_r, vc_n, vc_a]]; decide) (by decide) rfl eg ec rfl (Nat.le_of_eq (Nat.zero_add s)) ?_
  rw [eA]
  exact wp_mono K (fun k v h' z => wp_ret_weak (re_sb_at rfl (re_sb_at rfl (re_sb_at rfl (re_sb_nil _)))) z)
theorem B28_68 {SC : List Value} {d s : Nat} {h : re_H} {Q : Nat → Value → re_H → Prop} {a0 : Nat} {x2 : Int32} {v3 : Value} (r3 : re_R v3)
    {ae1 : Nat} (e2 : nb_fd h a0 0 2 (.ref ae1)) {c : Nat} {w : List Value} (eg : re_hg h ae1 = some (c, w)) (ec : c = 1) (K : wp SC 70 d 0 0 [(0, .ref ae1), (1, v3), (2, .int x2)] [] h (wp_ret SC 28 (d + 1) s 77 [(0, .ref a0)] [] Q)) : wp SC 28 (d + 1) s 68 [(0, .ref a0), (2, .int x2), (3, v3)] [] h Q := by
  refine wp_run 1 (pc' := 69) (lv' := [(0, .ref a0), (2, .int x2), (3, v3)]) (st' := [.ref a0]) rfl ?_
  obtain ⟨w2, e2a, e2b⟩ := e2
  refine wp_gf ⟨rfl, rfl⟩ rfl e2a e2b ?_
  refine wp_alR (ins := .aload_n 3) (k := 3) (pc' := 73) ⟨rfl, rfl⟩ (Or.inr ⟨_, rfl, rfl, rfl⟩) rfl r3 ?_
  refine wp_run 1 (pc' := 74) (lv' := [(0, .ref a0), (2, .int x2), (3, v3)]) (st' := [.int x2, v3, .ref ae1]) rfl ?_
  have eA : lv_args 0 (.ref ae1 :: [.int x2, v3].reverse) = [(0, .ref ae1), (1, v3), (2, .int x2)] := by simp [lv_args, vc_i, vc_l, vc_r, vc_n, vc_a, re_R_cat r3]
  refine wp_callV (ar := [.int x2, v3]) (rest := []) (s1 := 0) (s2 := s) (d' := d) ⟨rfl, rfl⟩ rfl (Or.inl rfl)  (by simp [re_cat, vc_i, vc_l, vc_r, vc_n, vc_a]) (by rw [show re_cat (.ref ae1 :: [.int x2, v3].reverse) = 3 from by simp [re_cat, vc_i, vc_l, vc_r, vc_n, vc_a, re_R_cat r3]]; decide) (by decide) rfl eg ec rfl (Nat.le_of_eq (Nat.zero_add s)) ?_
  rw [eA]
  exact wp_mono K (fun k v h' z => wp_ret_weak (re_sb_at rfl (re_sb_nil _)) z)
theorem B28_77 {SC : List Value} {d s : Nat} {h : re_H} {Q : Nat → Value → re_H → Prop} {a0 : Nat}
    {ae1 : Nat} (e2 : nb_fd h a0 0 4 (.ref ae1)) {c : Nat} {w : List Value} (eg : re_hg h ae1 = some (c, w)) (ec : c = 3) (K : wp SC 193 d 0 0 [(0, .ref ae1)] [] h (wp_ret SC 28 (d + 1) s 84 [(0, .ref a0)] [] Q)) : wp SC 28 (d + 1) s 77 [(0, .ref a0)] [] h Q := by
  refine wp_run 1 (pc' := 78) (lv' := [(0, .ref a0)]) (st' := [.ref a0]) rfl ?_
  obtain ⟨w2, e2a, e2b⟩ := e2
  refine wp_gf ⟨rfl, rfl⟩ rfl e2a e2b ?_
  have eA : lv_args 0 (.ref ae1 :: [].reverse) = [(0, .ref ae1)] := by simp [lv_args, vc_i, vc_l, vc_r, vc_n, vc_a]
  refine wp_callV (ar := []) (rest := []) (s1 := 0) (s2 := s) (d' := d) ⟨rfl, rfl⟩ rfl (Or.inl rfl)  (by simp [re_cat, vc_i, vc_l, vc_r, vc_n, vc_a]) (by rw [show re_cat (.ref ae1 :: [].reverse) = 1 from by simp [re_cat, vc_i, vc_l, vc_r, vc_n, vc_a]]; decide) (by decide) rfl eg ec rfl (Nat.le_of_eq (Nat.zero_add s)) ?_
  rw [eA]
  exact wp_mono K (fun k v h' z => wp_ret_weak (re_sb_at rfl (re_sb_nil _)) z)
theorem B28_84 {SC : List Value} {d s : Nat} {h : re_H} {Q : Nat → Value → re_H → Prop} {a0 : Nat}
    {ae1 : Nat} (e2 : nb_fd h a0 0 6 (.ref ae1)) {c : Nat} {w : List Value} (eg : re_hg h a0 = some (c, w)) (ec : c = 0) (K : wp SC 17 d 0 0 [(0, .ref a0)] [] h (wp_ret SC 28 (d + 1) s 92 [] [.ref ae1] Q)) : wp SC 28 (d + 1) s 84 [(0, .ref a0)] [] h Q := by
  refine wp_run 1 (pc' := 85) (lv' := [(0, .ref a0)]) (st' := [.ref a0]) rfl ?_
  obtain ⟨w2, e2a, e2b⟩ := e2
  refine wp_gf ⟨rfl, rfl⟩ rfl e2a e2b ?_
  refine wp_run 1 (pc' := 89) (lv' := [(0, .ref a0)]) (st' := [.ref a0, .ref ae1]) rfl ?_
  have eA : lv_args 0 (.ref a0 :: [].reverse) = [(0, .ref a0)] := by simp [lv_args, vc_i, vc_l, vc_r, vc_n, vc_a]
  refine wp_callV (ar := []) (rest := [.ref ae1]) (s1 := 0) (s2 := s) (d' := d) ⟨rfl, rfl⟩ rfl (Or.inl rfl)  (by simp [re_cat, vc_i, vc_l, vc_r, vc_n, vc_a]) (by rw [show re_cat (.ref a0 :: [].reverse) = 1 from by simp [re_cat, vc_i, vc_l, vc_r, vc_n, vc_a]]; decide) (by decide) rfl eg ec rfl (Nat.le_of_eq (Nat.zero_add s)) ?_
  rw [eA]
  exact wp_mono K (fun k v h' z => wp_ret_weak (re_sb_nil _) z)
theorem B28_92 {SC : List Value} {d s : Nat} {h : re_H} {Q : Nat → Value → re_H → Prop} {xs0 : Int32} {as1 : Nat}
    {c : Nat} {w : List Value} (eg : re_hg h as1 = some (c, w)) (ec : c = 8) (K : wp SC 513 d 0 0 [(0, .ref as1), (1, .int xs0)] [] h (wp_ret SC 28 (d + 1) s 95 [] [] Q)) : wp SC 28 (d + 1) s 92 [] [.int xs0, .ref as1] h Q := by
  have eA : lv_args 0 (.ref as1 :: [.int xs0].reverse) = [(0, .ref as1), (1, .int xs0)] := by simp [lv_args, vc_i, vc_l, vc_r, vc_n, vc_a]
  refine wp_callV (ar := [.int xs0]) (rest := []) (s1 := 0) (s2 := s) (d' := d) ⟨rfl, rfl⟩ rfl (Or.inl rfl)  (by simp [re_cat, vc_i, vc_l, vc_r, vc_n, vc_a]) (by rw [show re_cat (.ref as1 :: [.int xs0].reverse) = 2 from by simp [re_cat, vc_i, vc_l, vc_r, vc_n, vc_a]]; decide) (by decide) rfl eg ec rfl (Nat.le_of_eq (Nat.zero_add s)) ?_
  rw [eA]
  exact wp_mono K (fun k v h' z => wp_ret_weak (re_sb_nil _) z)
theorem B28_95 {SC : List Value} {d s : Nat} {h : re_H} {Q : Nat → Value → re_H → Prop} {xs0 : Int32}
    (K : Q 1 (.int (i32 1)) h) : wp SC 28 d s 95 [] [.int xs0] h Q := by
  refine wp_run 2 (pc' := 97) (lv' := []) (st' := [.int (i32 1)]) rfl ?_
  exact wp_retz ⟨rfl, rfl⟩ rfl (Or.inr rfl) K
theorem B29_0 {SC : List Value} {d s : Nat} {h : re_H} {Q : Nat → Value → re_H → Prop} {a0 : Nat} {x1 : Int32}
    (K1 : x1 < 0 → wp SC 29 d s 12 [] [] h Q) (K2 : ¬ x1 < 0 → wp SC 29 d s 4 [(0, .ref a0), (1, .int x1)] [] h Q) : wp SC 29 d s 0 [(0, .ref a0), (1, .int x1)] [] h Q := by
  refine wp_run 1 (pc' := 1) (lv' := [(0, .ref a0), (1, .int x1)]) (st' := [.int x1]) rfl ?_
  exact wp_if ⟨rfl, rfl⟩ rfl (fun hc => wp_weak (re_sb_nil _) (K1 (ic1_lt hc))) (fun hc => wp_weak (re_sb_at rfl (re_sb_at rfl (re_sb_nil _))) (K2 (ic0_lt hc)))
theorem B29_4 {SC : List Value} {d s : Nat} {h : re_H} {Q : Nat → Value → re_H → Prop} {a0 : Nat} {x1 : Int32}
    {xe1 : Int32} (e2 : nb_fd h a0 0 10 (.int xe1)) (K1 : x1 < xe1 → wp SC 29 d s 16 [(0, .ref a0), (1, .int x1)] [] h Q) (K2 : ¬ x1 < xe1 → wp SC 29 d s 12 [] [] h Q) : wp SC 29 d s 4 [(0, .ref a0), (1, .int x1)] [] h Q := by
  refine wp_run 2 (pc' := 6) (lv' := [(0, .ref a0), (1, .int x1)]) (st' := [.ref a0, .int x1]) rfl ?_
  obtain ⟨w2, e2a, e2b⟩ := e2
  refine wp_gf ⟨rfl, rfl⟩ rfl e2a e2b ?_
  exact wp_cmp ⟨rfl, rfl⟩ rfl (fun hc => wp_weak (re_sb_at rfl (re_sb_at rfl (re_sb_nil _))) (K1 (ic1_lt hc))) (fun hc => wp_weak (re_sb_nil _) (K2 (ic0_lt hc)))
theorem B29_12 {SC : List Value} {d s : Nat} {h : re_H} {Q : Nat → Value → re_H → Prop} 
    (K : wp SC 29 d s 22 [] [.null] h Q) : wp SC 29 d s 12 [] [] h Q := by
  refine wp_run 2 (pc' := 22) (lv' := []) (st' := [.null]) rfl ?_
  exact wp_weak (re_sb_nil _) K
theorem B29_16 {SC : List Value} {d s : Nat} {h : re_H} {Q : Nat → Value → re_H → Prop} {a0 : Nat} {x1 : Int32}
    {ae1 : Nat} (e2 : nb_fd h a0 0 9 (.ref ae1)) {ve3 : Value} (re3 : re_R ve3) (e4 : nb_ar h ae1 107 x1 (ve3)) (K : wp SC 29 d s 22 [] [ve3] h Q) : wp SC 29 d s 16 [(0, .ref a0), (1, .int x1)] [] h Q := by
  refine wp_run 1 (pc' := 17) (lv' := [(0, .ref a0), (1, .int x1)]) (st' := [.ref a0]) rfl ?_
  obtain ⟨w2, e2a, e2b⟩ := e2
  refine wp_gf ⟨rfl, rfl⟩ rfl e2a e2b ?_
  refine wp_run 1 (pc' := 21) (lv' := [(0, .ref a0), (1, .int x1)]) (st' := [.int x1, .ref ae1]) rfl ?_
  obtain ⟨w4, i4, e4a, e4x, e4i, e4v⟩ := e4
  refine wp_aal ⟨rfl, rfl⟩ e4a ⟨by decide, by decide⟩ e4x e4i e4v ?_
  exact wp_weak (re_sb_nil _) K
theorem B29_22 {SC : List Value} {d s : Nat} {h : re_H} {Q : Nat → Value → re_H → Prop} {vs0 : Value} (rs0 : re_R vs0)
    (K1 : vs0 = .null → wp SC 29 d s 27 [] [] h Q) (K2 : ∀ b1, vs0 = .ref b1 → wp SC 29 d s 38 [(2, .ref b1)] [] h Q) : wp SC 29 d s 22 [] [vs0] h Q := by
  refine wp_asR (ins := .astore_n 2) (k := 2) (pc' := 23) (lv' := [(2, vs0)]) ⟨rfl, rfl⟩ (Or.inr ⟨_, rfl, rfl, rfl⟩) (by decide) rs0 rfl ?_
  refine wp_alR (ins := .aload_n 2) (k := 2) (pc' := 24) ⟨rfl, rfl⟩ (Or.inr ⟨_, rfl, rfl, rfl⟩) rfl rs0 ?_
  exact wp_ifnn ⟨rfl, rfl⟩ rfl rs0 (fun bb hc => by subst hc; exact wp_weak (re_sb_at rfl (re_sb_nil _)) (K2 bb rfl)) (fun hc => by subst hc; exact wp_weak (re_sb_nil _) (K1 rfl))
theorem B29_27 {SC : List Value} {d s : Nat} {h : re_H} {Q : Nat → Value → re_H → Prop} 
    (hs : 0 < s) (K : Q 6 .null h) : wp SC 29 d s 27 [] [] h Q := by
  exact wp_throw rfl hs (by simp [re_cat, vc_i, vc_l, vc_r, vc_n, vc_a]) K
theorem B29_38 {SC : List Value} {d s : Nat} {h : re_H} {Q : Nat → Value → re_H → Prop} {a2 : Nat}
    (K : Q 3 (.ref a2) h) : wp SC 29 d s 38 [(2, .ref a2)] [] h Q := by
  refine wp_run 1 (pc' := 39) (lv' := [(2, .ref a2)]) (st' := [.ref a2]) rfl ?_
  exact wp_reta ⟨rfl, rfl⟩ rfl (Or.inr ⟨_, rfl⟩) K
theorem B30_0 {SC : List Value} {d s : Nat} {h : re_H} {Q : Nat → Value → re_H → Prop} {a0 : Nat} {x1 : Int32}
    {c : Nat} {w : List Value} (eg : re_hg h a0 = some (c, w)) (ec : c = 0) {s1 s2 : Nat} (hs : s1 + s2 ≤ s) (K : wp SC 29 d s1 0 [(0, .ref a0), (1, .int x1)] [] h (wp_ret SC 30 (d + 1) s2 5 [(0, .ref a0)] [] Q)) : wp SC 30 (d + 1) s 0 [(0, .ref a0), (1, .int x1)] [] h Q := by
  refine wp_run 2 (pc' := 2) (lv' := [(0, .ref a0), (1, .int x1)]) (st' := [.int x1, .ref a0]) rfl ?_
  have eA : lv_args 0 (.ref a0 :: [.int x1].reverse) = [(0, .ref a0), (1, .int x1)] := by simp [lv_args, vc_i, vc_l, vc_r, vc_n, vc_a]
  refine wp_callV (ar := [.int x1]) (rest := []) (s1 := s1) (s2 := s2) (d' := d) ⟨rfl, rfl⟩ rfl (Or.inl rfl)  (by simp [re_cat, vc_i, vc_l, vc_r, vc_n, vc_a]) (by rw [show re_cat (.ref a0 :: [.int x1].reverse) = 2 from by simp [re_cat, vc_i, vc_l, vc_r, vc_n, vc_a]]; decide) (by decide) rfl eg ec rfl hs ?_
  rw [eA]
  exact wp_mono K (fun k v h' z => wp_ret_weak (re_sb_at rfl (re_sb_nil _)) z)
theorem B30_5 {SC : List Value} {d s : Nat} {h : re_H} {Q : Nat → Value → re_H → Prop} {a0 : Nat} {vs0 : Value} (rs0 : re_R vs0)
    (K : wp SC 30 d s 11 [(0, .ref a0), (2, vs0), (3, .int (i32 0)), (4, .int (i32 0))] [] h Q) : wp SC 30 d s 5 [(0, .ref a0)] [vs0] h Q := by
  refine wp_asR (ins := .astore_n 2) (k := 2) (pc' := 6) (lv' := [(2, vs0), (0, .ref a0)]) ⟨rfl, rfl⟩ (Or.inr ⟨_, rfl, rfl, rfl⟩) (by decide) rs0 rfl ?_
  refine wp_run 1 (pc' := 7) (lv' := [(2, vs0), (0, .ref a0)]) (st' := [.int (i32 0)]) rfl ?_
  refine wp_stI (ins := .istore_n 3) (k := 3) (pc' := 8) (lv' := [(3, .int (i32 0)), (2, vs0), (0, .ref a0)]) ⟨rfl, rfl⟩ (Or.inr ⟨_, rfl, rfl, rfl⟩) (by decide) (by simp [re_s1, re_s2, re_c2, re_lk, vc_i, vc_l, vc_r, vc_n, vc_a, re_R_cat rs0]) ?_
  refine wp_run 2 (pc' := 11) (lv' := [(4, .int (i32 0)), (3, .int (i32 0)), (2, vs0), (0, .ref a0)]) (st' := []) rfl ?_
  exact wp_weak (re_sb_at rfl (re_sb_at rfl (re_sb_at rfl (re_sb_at rfl (re_sb_nil _))))) K
theorem B30_11 {SC : List Value} {d s : Nat} {h : re_H} {Q : Nat → Value → re_H → Prop} {a0 : Nat} {v2 : Value} (r2 : re_R v2) {x3 : Int32} {x4 : Int32}
    (K1 : ¬ x4 < (i32 12) → wp SC 30 d s 44 [(3, .int x3)] [] h Q) (K2 : x4 < (i32 12) → wp SC 30 d s 18 [(0, .ref a0), (2, v2), (3, .int x3), (4, .int x4)] [] h Q) : wp SC 30 d s 11 [(0, .ref a0), (2, v2), (3, .int x3), (4, .int x4)] [] h Q := by
  refine wp_run 1 (pc' := 13) (lv' := [(0, .ref a0), (2, v2), (3, .int x3), (4, .int x4)]) (st' := [.int x4]) rfl ?_
  refine wp_bi (x := (i32 12)) ⟨rfl, rfl⟩ (by decide) ?_
  exact wp_cmp ⟨rfl, rfl⟩ rfl (fun hc => wp_weak (re_sb_at rfl (re_sb_nil _)) (K1 (ic1_ge hc))) (fun hc => wp_weak (re_sb_at rfl (re_sb_at rfl (re_sb_at rfl (re_sb_at rfl (re_sb_nil _))))) (K2 (ic0_ge hc)))
theorem B30_18 {SC : List Value} {d s : Nat} {h : re_H} {Q : Nat → Value → re_H → Prop} {a0 : Nat} {v2 : Value} (r2 : re_R v2) {x3 : Int32} {x4 : Int32}
    {ae1 : Nat} (e2 : nb_fd h a0 0 2 (.ref ae1)) {c : Nat} {w : List Value} (eg : re_hg h ae1 = some (c, w)) (ec : c = 1) (K : wp SC 71 d 0 0 [(0, .ref ae1), (1, v2), (2, .int x4)] [] h (wp_ret SC 30 (d + 1) s 28 [(0, .ref a0), (2, v2), (3, .int x3), (4, .int x4)] [] Q)) : wp SC 30 (d + 1) s 18 [(0, .ref a0), (2, v2), (3, .int x3), (4, .int x4)] [] h Q := by
  refine wp_run 1 (pc' := 19) (lv' := [(0, .ref a0), (2, v2), (3, .int x3), (4, .int x4)]) (st' := [.ref a0]) rfl ?_
  obtain ⟨w2, e2a, e2b⟩ := e2
  refine wp_gf ⟨rfl, rfl⟩ rfl e2a e2b ?_
  refine wp_alR (ins := .aload_n 2) (k := 2) (pc' := 23) ⟨rfl, rfl⟩ (Or.inr ⟨_, rfl, rfl, rfl⟩) rfl r2 ?_
  refine wp_run 1 (pc' := 25) (lv' := [(0, .ref a0), (2, v2), (3, .int x3), (4, .int x4)]) (st' := [.int x4, v2, .ref ae1]) rfl ?_
  have eA : lv_args 0 (.ref ae1 :: [.int x4, v2].reverse) = [(0, .ref ae1), (1, v2), (2, .int x4)] := by simp [lv_args, vc_i, vc_l, vc_r, vc_n, vc_a, re_R_cat r2]
  refine wp_callV (ar := [.int x4, v2]) (rest := []) (s1 := 0) (s2 := s) (d' := d) ⟨rfl, rfl⟩ rfl (Or.inl rfl)  (by simp [re_cat, vc_i, vc_l, vc_r, vc_n, vc_a]) (by rw [show re_cat (.ref ae1 :: [.int x4, v2].reverse) = 3 from by simp [re_cat, vc_i, vc_l, vc_r, vc_n, vc_a, re_R_cat r2]]; decide) (by decide) rfl eg ec rfl (Nat.le_of_eq (Nat.zero_add s)) ?_
  rw [eA]
  exact wp_mono K (fun k v h' z => wp_ret_weak (re_sb_at rfl (re_sb_at rfl (re_sb_at rfl (re_sb_at rfl (re_sb_nil _))))) z)
theorem B30_28 {SC : List Value} {d s : Nat} {h : re_H} {Q : Nat → Value → re_H → Prop} {a0 : Nat} {v2 : Value} (r2 : re_R v2) {x3 : Int32} {x4 : Int32} {xs0 : Int32}
    (K1 : ¬ xs0 = 0 → wp SC 30 d s 38 [(0, .ref a0), (2, v2), (3, .int x3), (4, .int x4)] [] h Q) (K2 : xs0 = 0 → wp SC 30 d s 31 [(0, .ref a0), (2, v2), (3, .int x3), (4, .int x4)] [] h Q) : wp SC 30 d s 28 [(0, .ref a0), (2, v2), (3, .int x3), (4, .int x4)] [.int xs0] h Q := by
  exact wp_if ⟨rfl, rfl⟩ rfl (fun hc => wp_weak (re_sb_at rfl (re_sb_at rfl (re_sb_at rfl (re_sb_at rfl (re_sb_nil _))))) (K1 (ic1_ne hc))) (fun hc => wp_weak (re_sb_at rfl (re_sb_at rfl (re_sb_at rfl (re_sb_at rfl (re_sb_nil _))))) (K2 (ic0_ne hc)))
theorem B30_31 {SC : List Value} {d s : Nat} {h : re_H} {Q : Nat → Value → re_H → Prop} {a0 : Nat} {v2 : Value} (r2 : re_R v2) {x3 : Int32} {x4 : Int32}
    (K : wp SC 30 d s 38 [(0, .ref a0), (2, v2), (3, .int (x3 ||| ((i32 1) <<< (x4 &&& 31)))), (4, .int x4)] [] h Q) : wp SC 30 d s 31 [(0, .ref a0), (2, v2), (3, .int x3), (4, .int x4)] [] h Q := by
  refine wp_run 5 (pc' := 37) (lv' := [(0, .ref a0), (2, v2), (3, .int x3), (4, .int x4)]) (st' := [.int (x3 ||| ((i32 1) <<< (x4 &&& 31)))]) rfl ?_
  refine wp_stI (ins := .istore_n 3) (k := 3) (pc' := 38) (lv' := [(3, .int (x3 ||| ((i32 1) <<< (x4 &&& 31)))), (0, .ref a0), (2, v2), (4, .int x4)]) ⟨rfl, rfl⟩ (Or.inr ⟨_, rfl, rfl, rfl⟩) (by decide) (by simp [re_s1, re_s2, re_c2, re_lk, vc_i, vc_l, vc_r, vc_n, vc_a, re_R_cat r2]) ?_
  exact wp_weak (re_sb_at rfl (re_sb_at rfl (re_sb_at rfl (re_sb_at rfl (re_sb_nil _))))) K
theorem B30_38 {SC : List Value} {d s : Nat} {h : re_H} {Q : Nat → Value → re_H → Prop} {a0 : Nat} {v2 : Value} (r2 : re_R v2) {x3 : Int32} {x4 : Int32}
    (K : wp SC 30 d s 11 [(0, .ref a0), (2, v2), (3, .int x3), (4, .int (x4 + (i32 1)))] [] h Q) : wp SC 30 d s 38 [(0, .ref a0), (2, v2), (3, .int x3), (4, .int x4)] [] h Q := by
  refine wp_run 2 (pc' := 11) (lv' := [(4, .int (x4 + (i32 1))), (0, .ref a0), (2, v2), (3, .int x3)]) (st' := []) rfl ?_
  exact wp_weak (re_sb_at rfl (re_sb_at rfl (re_sb_at rfl (re_sb_at rfl (re_sb_nil _))))) K
theorem B30_44 {SC : List Value} {d s : Nat} {h : re_H} {Q : Nat → Value → re_H → Prop} {x3 : Int32}
    (K : Q 1 (.int x3) h) : wp SC 30 d s 44 [(3, .int x3)] [] h Q := by
  refine wp_run 1 (pc' := 45) (lv' := [(3, .int x3)]) (st' := [.int x3]) rfl ?_
  exact wp_reti ⟨rfl, rfl⟩ rfl K
theorem B31_0 {SC : List Value} {d s : Nat} {h : re_H} {Q : Nat → Value → re_H → Prop} {a0 : Nat} {x1 : Int32}
    {c : Nat} {w : List Value} (eg : re_hg h a0 = some (c, w)) (ec : c = 0) {s1 s2 : Nat} (hs : s1 + s2 ≤ s) (K : wp SC 19 d s1 0 [(0, .ref a0), (1, .int x1)] [] h (wp_ret SC 31 (d + 1) s2 5 [(0, .ref a0), (1, .int x1)] [] Q)) : wp SC 31 (d + 1) s 0 [(0, .ref a0), (1, .int x1)] [] h Q := by
  refine wp_run 2 (pc' := 2) (lv' := [(0, .ref a0), (1, .int x1)]) (st' := [.int x1, .ref a0]) rfl ?_
  have eA : lv_args 0 (.ref a0 :: [.int x1].reverse) = [(0, .ref a0), (1, .int x1)] := by simp [lv_args, vc_i, vc_l, vc_r, vc_n, vc_a]
  refine wp_callV (ar := [.int x1]) (rest := []) (s1 := s1) (s2 := s2) (d' := d) ⟨rfl, rfl⟩ rfl (Or.inl rfl)  (by simp [re_cat, vc_i, vc_l, vc_r, vc_n, vc_a]) (by rw [show re_cat (.ref a0 :: [.int x1].reverse) = 2 from by simp [re_cat, vc_i, vc_l, vc_r, vc_n, vc_a]]; decide) (by decide) rfl eg ec rfl hs ?_
  rw [eA]
  exact wp_mono K (fun k v h' z => wp_ret_weak (re_sb_at rfl (re_sb_at rfl (re_sb_nil _))) z)
theorem B31_5 {SC : List Value} {d s : Nat} {h : re_H} {Q : Nat → Value → re_H → Prop} {a0 : Nat} {x1 : Int32}
    {ae1 : Nat} (e2 : nb_fd h a0 0 6 (.ref ae1)) {c : Nat} {w : List Value} (eg : re_hg h ae1 = some (c, w)) (ec : c = 8) (K : wp SC 515 d 0 0 [(0, .ref ae1), (1, .int x1)] [] h (wp_ret SC 31 (d + 1) s 13 [] [] Q)) : wp SC 31 (d + 1) s 5 [(0, .ref a0), (1, .int x1)] [] h Q := by
  refine wp_run 1 (pc' := 6) (lv' := [(0, .ref a0), (1, .int x1)]) (st' := [.ref a0]) rfl ?_
  obtain ⟨w2, e2a, e2b⟩ := e2
  refine wp_gf ⟨rfl, rfl⟩ rfl e2a e2b ?_
  refine wp_run 1 (pc' := 10) (lv' := [(0, .ref a0), (1, .int x1)]) (st' := [.int x1, .ref ae1]) rfl ?_
  have eA : lv_args 0 (.ref ae1 :: [.int x1].reverse) = [(0, .ref ae1), (1, .int x1)] := by simp [lv_args, vc_i, vc_l, vc_r, vc_n, vc_a]
  refine wp_callV (ar := [.int x1]) (rest := []) (s1 := 0) (s2 := s) (d' := d) ⟨rfl, rfl⟩ rfl (Or.inl rfl)  (by simp [re_cat, vc_i, vc_l, vc_r, vc_n, vc_a]) (by rw [show re_cat (.ref ae1 :: [.int x1].reverse) = 2 from by simp [re_cat, vc_i, vc_l, vc_r, vc_n, vc_a]]; decide) (by decide) rfl eg ec rfl (Nat.le_of_eq (Nat.zero_add s)) ?_
  rw [eA]
  exact wp_mono K (fun k v h' z => wp_ret_weak (re_sb_nil _) z)
theorem B31_13 {SC : List Value} {d s : Nat} {h : re_H} {Q : Nat → Value → re_H → Prop} {as0 : Nat}
    {xe1 : Int32} (e2 : nb_fd h as0 5 0 (.int xe1)) (K : Q 1 (.int xe1) h) : wp SC 31 d s 13 [] [.ref as0] h Q := by
  obtain ⟨w2, e2a, e2b⟩ := e2
  refine wp_gf ⟨rfl, rfl⟩ rfl e2a e2b ?_
  exact wp_reti ⟨rfl, rfl⟩ rfl K
theorem B32_0 {SC : List Value} {d s : Nat} {h : re_H} {Q : Nat → Value → re_H → Prop} {a0 : Nat} {x1 : Int32}
    {c : Nat} {w : List Value} (eg : re_hg h a0 = some (c, w)) (ec : c = 0) {s1 s2 : Nat} (hs : s1 + s2 ≤ s) (K : wp SC 19 d s1 0 [(0, .ref a0), (1, .int x1)] [] h (wp_ret SC 32 (d + 1) s2 5 [(0, .ref a0), (1, .int x1)] [] Q)) : wp SC 32 (d + 1) s 0 [(0, .ref a0), (1, .int x1)] [] h Q := by
  refine wp_run 2 (pc' := 2) (lv' := [(0, .ref a0), (1, .int x1)]) (st' := [.int x1, .ref a0]) rfl ?_
  have eA : lv_args 0 (.ref a0 :: [.int x1].reverse) = [(0, .ref a0), (1, .int x1)] := by simp [lv_args, vc_i, vc_l, vc_r, vc_n, vc_a]
  refine wp_callV (ar := [.int x1]) (rest := []) (s1 := s1) (s2 := s2) (d' := d) ⟨rfl, rfl⟩ rfl (Or.inl rfl)  (by simp [re_cat, vc_i, vc_l, vc_r, vc_n, vc_a]) (by rw [show re_cat (.ref a0 :: [.int x1].reverse) = 2 from by simp [re_cat, vc_i, vc_l, vc_r, vc_n, vc_a]]; decide) (by decide) rfl eg ec rfl hs ?_
  rw [eA]
  exact wp_mono K (fun k v h' z => wp_ret_weak (re_sb_at rfl (re_sb_at rfl (re_sb_nil _))) z)
theorem B32_5 {SC : List Value} {d s : Nat} {h : re_H} {Q : Nat → Value → re_H → Prop} {a0 : Nat} {x1 : Int32}
    {ae1 : Nat} (e2 : nb_fd h a0 0 6 (.ref ae1)) {c : Nat} {w : List Value} (eg : re_hg h ae1 = some (c, w)) (ec : c = 8) (K : wp SC 522 d 0 0 [(0, .ref ae1)] [] h (wp_ret SC 32 (d + 1) s 12 [(1, .int x1)] [] Q)) : wp SC 32 (d + 1) s 5 [(0, .ref a0), (1, .int x1)] [] h Q := by
  refine wp_run 1 (pc' := 6) (lv' := [(0, .ref a0), (1, .int x1)]) (st' := [.ref a0]) rfl ?_
  obtain ⟨w2, e2a, e2b⟩ := e2
  refine wp_gf ⟨rfl, rfl⟩ rfl e2a e2b ?_
  have eA : lv_args 0 (.ref ae1 :: [].reverse) = [(0, .ref ae1)] := by simp [lv_args, vc_i, vc_l, vc_r, vc_n, vc_a]
  refine wp_callV (ar := []) (rest := []) (s1 := 0) (s2 := s) (d' := d) ⟨rfl, rfl⟩ rfl (Or.inl rfl)  (by simp [re_cat, vc_i, vc_l, vc_r, vc_n, vc_a]) (by rw [show re_cat (.ref ae1 :: [].reverse) = 1 from by simp [re_cat, vc_i, vc_l, vc_r, vc_n, vc_a]]; decide) (by decide) rfl eg ec rfl (Nat.le_of_eq (Nat.zero_add s)) ?_
  rw [eA]
  exact wp_mono K (fun k v h' z => wp_ret_weak (re_sb_at rfl (re_sb_nil _)) z)
theorem B32_12 {SC : List Value} {d s : Nat} {h : re_H} {Q : Nat → Value → re_H → Prop} {x1 : Int32} {xs0 : Int32}
    (K1 : ¬ ((xs0 >>> (x1 &&& 31)) &&& (i32 1)) = (i32 1) → wp SC 32 d s 24 [] [] h Q) (K2 : ((xs0 >>> (x1 &&& 31)) &&& (i32 1)) = (i32 1) → wp SC 32 d s 20 [] [] h Q) : wp SC 32 d s 12 [(1, .int x1)] [.int xs0] h Q := by
  refine wp_run 5 (pc' := 17) (lv' := [(1, .int x1)]) (st' := [.int (i32 1), .int ((xs0 >>> (x1 &&& 31)) &&& (i32 1))]) rfl ?_
  exact wp_cmp ⟨rfl, rfl⟩ rfl (fun hc => wp_weak (re_sb_nil _) (K1 (ic1_ne hc))) (fun hc => wp_weak (re_sb_nil _) (K2 (ic0_ne hc)))
theorem B32_20 {SC : List Value} {d s : Nat} {h : re_H} {Q : Nat → Value → re_H → Prop} 
    (K : wp SC 32 d s 25 [] [.int (i32 1)] h Q) : wp SC 32 d s 20 [] [] h Q := by
  refine wp_run 2 (pc' := 25) (lv' := []) (st' := [.int (i32 1)]) rfl ?_
  exact wp_weak (re_sb_nil _) K
theorem B32_24 {SC : List Value} {d s : Nat} {h : re_H} {Q : Nat → Value → re_H → Prop} 
    (K : wp SC 32 d s 25 [] [.int (i32 0)] h Q) : wp SC 32 d s 24 [] [] h Q := by
  refine wp_run 1 (pc' := 25) (lv' := []) (st' := [.int (i32 0)]) rfl ?_
  exact wp_weak (re_sb_nil _) K
theorem B32_25 {SC : List Value} {d s : Nat} {h : re_H} {Q : Nat → Value → re_H → Prop} {xs0 : Int32}
    (hz : xs0 = 0 ∨ xs0 = 1) (K : Q 1 (.int xs0) h) : wp SC 32 d s 25 [] [.int xs0] h Q := by
  exact wp_retz ⟨rfl, rfl⟩ rfl hz K
theorem B33_0 {SC : List Value} {d s : Nat} {h : re_H} {Q : Nat → Value → re_H → Prop} {a0 : Nat} {x1 : Int32} {x2 : Int32}
    {c : Nat} {w : List Value} (eg : re_hg h a0 = some (c, w)) (ec : c = 0) {s1 s2 : Nat} (hs : s1 + s2 ≤ s) (K : wp SC 19 d s1 0 [(0, .ref a0), (1, .int x1)] [] h (wp_ret SC 33 (d + 1) s2 5 [(0, .ref a0), (1, .int x1), (2, .int x2)] [] Q)) : wp SC 33 (d + 1) s 0 [(0, .ref a0), (1, .int x1), (2, .int x2)] [] h Q := by
  refine wp_run 2 (pc' := 2) (lv' := [(0, .ref a0), (1, .int x1), (2, .int x2)]) (st' := [.int x1, .ref a0]) rfl ?_
  have eA : lv_args 0 (.ref a0 :: [.int x1].reverse) = [(0, .ref a0), (1, .int x1)] := by simp [lv_args, vc_i, vc_l, vc_r, vc_n, vc_a]
  refine wp_callV (ar := [.int x1]) (rest := []) (s1 := s1) (s2 := s2) (d' := d) ⟨rfl, rfl⟩ rfl (Or.inl rfl)  (by simp [re_cat, vc_i, vc_l, vc_r, vc_n, vc_a]) (by rw [show re_cat (.ref a0 :: [.int x1].reverse) = 2 from by simp [re_cat, vc_i, vc_l, vc_r, vc_n, vc_a]]; decide) (by decide) rfl eg ec rfl hs ?_
  rw [eA]
  exact wp_mono K (fun k v h' z => wp_ret_weak (re_sb_at rfl (re_sb_at rfl (re_sb_at rfl (re_sb_nil _)))) z)
theorem B33_5 {SC : List Value} {d s : Nat} {h : re_H} {Q : Nat → Value → re_H → Prop} {a0 : Nat} {x1 : Int32} {x2 : Int32}
    {c : Nat} {w : List Value} (eg : re_hg h a0 = some (c, w)) (ec : c = 0) {s1 s2 : Nat} (hs : s1 + s2 ≤ s) (K : wp SC 5 d s1 0 [(0, .ref a0), (1, .int x2)] [] h (wp_ret SC 33 (d + 1) s2 10 [(0, .ref a0), (1, .int x1), (2, .int x2)] [] Q)) : wp SC 33 (d + 1) s 5 [(0, .ref a0), (1, .int x1), (2, .int x2)] [] h Q := by
  refine wp_run 2 (pc' := 7) (lv' := [(0, .ref a0), (1, .int x1), (2, .int x2)]) (st' := [.int x2, .ref a0]) rfl ?_
  have eA : lv_args 0 (.ref a0 :: [.int x2].reverse) = [(0, .ref a0), (1, .int x2)] := by simp [lv_args, vc_i, vc_l, vc_r, vc_n, vc_a]
  refine wp_callV (ar := [.int x2]) (rest := []) (s1 := s1) (s2 := s2) (d' := d) ⟨rfl, rfl⟩ rfl (Or.inl rfl)  (by simp [re_cat, vc_i, vc_l, vc_r, vc_n, vc_a]) (by rw [show re_cat (.ref a0 :: [.int x2].reverse) = 2 from by simp [re_cat, vc_i, vc_l, vc_r, vc_n, vc_a]]; decide) (by decide) rfl eg ec rfl hs ?_
  rw [eA]
  exact wp_mono K (fun k v h' z => wp_ret_weak (re_sb_at rfl (re_sb_at rfl (re_sb_at rfl (re_sb_nil _)))) z)
theorem B33_10 {SC : List Value} {d s : Nat} {h : re_H} {Q : Nat → Value → re_H → Prop} {a0 : Nat} {x1 : Int32} {x2 : Int32}
    {ae1 : Nat} (e2 : nb_fd h a0 0 6 (.ref ae1)) {c : Nat} {w : List Value} (eg : re_hg h ae1 = some (c, w)) (ec : c = 8) (K : wp SC 515 d 0 0 [(0, .ref ae1), (1, .int x1)] [] h (wp_ret SC 33 (d + 1) s 18 [(2, .int x2)] [] Q)) : wp SC 33 (d + 1) s 10 [(0, .ref a0), (1, .int x1), (2, .int x2)] [] h Q := by
  refine wp_run 1 (pc' := 11) (lv' := [(0, .ref a0), (1, .int x1), (2, .int x2)]) (st' := [.ref a0]) rfl ?_
  obtain ⟨w2, e2a, e2b⟩ := e2
  refine wp_gf ⟨rfl, rfl⟩ rfl e2a e2b ?_
  refine wp_run 1 (pc' := 15) (lv' := [(0, .ref a0), (1, .int x1), (2, .int x2)]) (st' := [.int x1, .ref ae1]) rfl ?_
  have eA : lv_args 0 (.ref ae1 :: [.int x1].reverse) = [(0, .ref ae1), (1, .int x1)] := by simp [lv_args, vc_i, vc_l, vc_r, vc_n, vc_a]
  refine wp_callV (ar := [.int x1]) (rest := []) (s1 := 0) (s2 := s) (d' := d) ⟨rfl, rfl⟩ rfl (Or.inl rfl)  (by simp [re_cat, vc_i, vc_l, vc_r, vc_n, vc_a]) (by rw [show re_cat (.ref ae1 :: [.int x1].reverse) = 2 from by simp [re_cat, vc_i, vc_l, vc_r, vc_n, vc_a]]; decide) (by decide) rfl eg ec rfl (Nat.le_of_eq (Nat.zero_add s)) ?_
  rw [eA]
  exact wp_mono K (fun k v h' z => wp_ret_weak (re_sb_at rfl (re_sb_nil _)) z)
theorem B33_18 {SC : List Value} {d s : Nat} {h : re_H} {Q : Nat → Value → re_H → Prop} {x2 : Int32} {as0 : Nat}
    {c : Nat} {w : List Value} (eg : re_hg h as0 = some (c, w)) (ec : c = 5) (K : wp SC 322 d 0 0 [(0, .ref as0), (1, .int x2)] [] h (wp_ret SC 33 (d + 1) s 22 [] [] Q)) : wp SC 33 (d + 1) s 18 [(2, .int x2)] [.ref as0] h Q := by
  refine wp_run 1 (pc' := 19) (lv' := [(2, .int x2)]) (st' := [.int x2, .ref as0]) rfl ?_
  have eA : lv_args 0 (.ref as0 :: [.int x2].reverse) = [(0, .ref as0), (1, .int x2)] := by simp [lv_args, vc_i, vc_l, vc_r, vc_n, vc_a]
  refine wp_callV (ar := [.int x2]) (rest := []) (s1 := 0) (s2 := s) (d' := d) ⟨rfl, rfl⟩ rfl (Or.inl rfl)  (by simp [re_cat, vc_i, vc_l, vc_r, vc_n, vc_a]) (by rw [show re_cat (.ref as0 :: [.int x2].reverse) = 2 from by simp [re_cat, vc_i, vc_l, vc_r, vc_n, vc_a]]; decide) (by decide) rfl eg ec rfl (Nat.le_of_eq (Nat.zero_add s)) ?_
  rw [eA]
  exact wp_mono K (fun k v h' z => wp_ret_weak (re_sb_nil _) z)
theorem B33_22 {SC : List Value} {d s : Nat} {h : re_H} {Q : Nat → Value → re_H → Prop} {xs0 : Int32}
    (K : Q 1 (.int xs0) h) : wp SC 33 d s 22 [] [.int xs0] h Q := by
  exact wp_reti ⟨rfl, rfl⟩ rfl K
theorem B34_0 {SC : List Value} {d s : Nat} {h : re_H} {Q : Nat → Value → re_H → Prop} {a0 : Nat} {x1 : Int32} {x2 : Int32}
    {c : Nat} {w : List Value} (eg : re_hg h a0 = some (c, w)) (ec : c = 0) {s1 s2 : Nat} (hs : s1 + s2 ≤ s) (K : wp SC 19 d s1 0 [(0, .ref a0), (1, .int x1)] [] h (wp_ret SC 34 (d + 1) s2 5 [(0, .ref a0), (1, .int x1), (2, .int x2)] [] Q)) : wp SC 34 (d + 1) s 0 [(0, .ref a0), (1, .int x1), (2, .int x2)] [] h Q := by
  refine wp_run 2 (pc' := 2) (lv' := [(0, .ref a0), (1, .int x1), (2, .int x2)]) (st' := [.int x1, .ref a0]) rfl ?_
  have eA : lv_args 0 (.ref a0 :: [.int x1].reverse) = [(0, .ref a0), (1, .int x1)] := by simp [lv_args, vc_i, vc_l, vc_r, vc_n, vc_a]
  refine wp_callV (ar := [.int x1]) (rest := []) (s1 := s1) (s2 := s2) (d' := d) ⟨rfl, rfl⟩ rfl (Or.inl rfl)  (by simp [re_cat, vc_i, vc_l, vc_r, vc_n, vc_a]) (by rw [show re_cat (.ref a0 :: [.int x1].reverse) = 2 from by simp [re_cat, vc_i, vc_l, vc_r, vc_n, vc_a]]; decide) (by decide) rfl eg ec rfl hs ?_
  rw [eA]
  exact wp_mono K (fun k v h' z => wp_ret_weak (re_sb_at rfl (re_sb_at rfl (re_sb_at rfl (re_sb_nil _)))) z)
theorem B34_5 {SC : List Value} {d s : Nat} {h : re_H} {Q : Nat → Value → re_H → Prop} {a0 : Nat} {x1 : Int32} {x2 : Int32}
    {c : Nat} {w : List Value} (eg : re_hg h a0 = some (c, w)) (ec : c = 0) {s1 s2 : Nat} (hs : s1 + s2 ≤ s) (K : wp SC 5 d s1 0 [(0, .ref a0), (1, .int x2)] [] h (wp_ret SC 34 (d + 1) s2 10 [(0, .ref a0), (1, .int x1), (2, .int x2)] [] Q)) : wp SC 34 (d + 1) s 5 [(0, .ref a0), (1, .int x1), (2, .int x2)] [] h Q := by
  refine wp_run 2 (pc' := 7) (lv' := [(0, .ref a0), (1, .int x1), (2, .int x2)]) (st' := [.int x2, .ref a0]) rfl ?_
  have eA : lv_args 0 (.ref a0 :: [.int x2].reverse) = [(0, .ref a0), (1, .int x2)] := by simp [lv_args, vc_i, vc_l, vc_r, vc_n, vc_a]
  refine wp_callV (ar := [.int x2]) (rest := []) (s1 := s1) (s2 := s2) (d' := d) ⟨rfl, rfl⟩ rfl (Or.inl rfl)  (by simp [re_cat, vc_i, vc_l, vc_r, vc_n, vc_a]) (by rw [show re_cat (.ref a0 :: [.int x2].reverse) = 2 from by simp [re_cat, vc_i, vc_l, vc_r, vc_n, vc_a]]; decide) (by decide) rfl eg ec rfl hs ?_
  rw [eA]
  exact wp_mono K (fun k v h' z => wp_ret_weak (re_sb_at rfl (re_sb_at rfl (re_sb_at rfl (re_sb_nil _)))) z)
theorem B34_10 {SC : List Value} {d s : Nat} {h : re_H} {Q : Nat → Value → re_H → Prop} {a0 : Nat} {x1 : Int32} {x2 : Int32}
    {ae1 : Nat} (e2 : nb_fd h a0 0 6 (.ref ae1)) {c : Nat} {w : List Value} (eg : re_hg h ae1 = some (c, w)) (ec : c = 8) (K : wp SC 515 d 0 0 [(0, .ref ae1), (1, .int x1)] [] h (wp_ret SC 34 (d + 1) s 18 [(2, .int x2)] [] Q)) : wp SC 34 (d + 1) s 10 [(0, .ref a0), (1, .int x1), (2, .int x2)] [] h Q := by
  refine wp_run 1 (pc' := 11) (lv' := [(0, .ref a0), (1, .int x1), (2, .int x2)]) (st' := [.ref a0]) rfl ?_
  obtain ⟨w2, e2a, e2b⟩ := e2
  refine wp_gf ⟨rfl, rfl⟩ rfl e2a e2b ?_
  refine wp_run 1 (pc' := 15) (lv' := [(0, .ref a0), (1, .int x1), (2, .int x2)]) (st' := [.int x1, .ref ae1]) rfl ?_
  have eA : lv_args 0 (.ref ae1 :: [.int x1].reverse) = [(0, .ref ae1), (1, .int x1)] := by simp [lv_args, vc_i, vc_l, vc_r, vc_n, vc_a]
  refine wp_callV (ar := [.int x1]) (rest := []) (s1 := 0) (s2 := s) (d' := d) ⟨rfl, rfl⟩ rfl (Or.inl rfl)  (by simp [re_cat, vc_i, vc_l, vc_r, vc_n, vc_a]) (by rw [show re_cat (.ref ae1 :: [.int x1].reverse) = 2 from by simp [re_cat, vc_i, vc_l, vc_r, vc_n, vc_a]]; decide) (by decide) rfl eg ec rfl (Nat.le_of_eq (Nat.zero_add s)) ?_
  rw [eA]
  exact wp_mono K (fun k v h' z => wp_ret_weak (re_sb_at rfl (re_sb_nil _)) z)
theorem B34_18 {SC : List Value} {d s : Nat} {h : re_H} {Q : Nat → Value → re_H → Prop} {x2 : Int32} {as0 : Nat}
    {c : Nat} {w : List Value} (eg : re_hg h as0 = some (c, w)) (ec : c = 5) (K : wp SC 322 d 0 0 [(0, .ref as0), (1, .int x2)] [] h (wp_ret SC 34 (d + 1) s 24 [(2, .int x2), (3, .ref as0)] [] Q)) : wp SC 34 (d + 1) s 18 [(2, .int x2)] [.ref as0] h Q := by
  refine wp_run 3 (pc' := 21) (lv' := [(3, .ref as0), (2, .int x2)]) (st' := [.int x2, .ref as0]) rfl ?_
  have eA : lv_args 0 (.ref as0 :: [.int x2].reverse) = [(0, .ref as0), (1, .int x2)] := by simp [lv_args, vc_i, vc_l, vc_r, vc_n, vc_a]
  refine wp_callV (ar := [.int x2]) (rest := []) (s1 := 0) (s2 := s) (d' := d) ⟨rfl, rfl⟩ rfl (Or.inl rfl)  (by simp [re_cat, vc_i, vc_l, vc_r, vc_n, vc_a]) (by rw [show re_cat (.ref as0 :: [.int x2].reverse) = 2 from by simp [re_cat, vc_i, vc_l, vc_r, vc_n, vc_a]]; decide) (by decide) rfl eg ec rfl (Nat.le_of_eq (Nat.zero_add s)) ?_
  rw [eA]
  exact wp_mono K (fun k v h' z => wp_ret_weak (re_sb_at rfl (re_sb_at rfl (re_sb_nil _))) z)
theorem B34_24 {SC : List Value} {d s : Nat} {h : re_H} {Q : Nat → Value → re_H → Prop} {x2 : Int32} {a3 : Nat} {xs0 : Int32}
    (K1 : xs0 = (i32 1) → wp SC 34 d s 38 [(2, .int x2), (3, .ref a3)] [] h Q) (K2 : ¬ xs0 = (i32 1) → wp SC 34 d s 28 [] [] h Q) : wp SC 34 d s 24 [(2, .int x2), (3, .ref a3)] [.int xs0] h Q := by
  refine wp_run 1 (pc' := 25) (lv' := [(2, .int x2), (3, .ref a3)]) (st' := [.int (i32 1), .int xs0]) rfl ?_
  exact wp_cmp ⟨rfl, rfl⟩ rfl (fun hc => wp_weak (re_sb_at rfl (re_sb_at rfl (re_sb_nil _))) (K1 (ic1_eq hc))) (fun hc => wp_weak (re_sb_nil _) (K2 (ic0_eq hc)))
theorem B34_28 {SC : List Value} {d s : Nat} {h : re_H} {Q : Nat → Value → re_H → Prop} 
    (hs : 0 < s) (K : Q 4 .null h) : wp SC 34 d s 28 [] [] h Q := by
  exact wp_throw rfl hs (by simp [re_cat, vc_i, vc_l, vc_r, vc_n, vc_a]) K
theorem B34_38 {SC : List Value} {d s : Nat} {h : re_H} {Q : Nat → Value → re_H → Prop} {x2 : Int32} {a3 : Nat}
    {c : Nat} {w : List Value} (eg : re_hg h a3 = some (c, w)) (ec : c = 5) (K : wp SC 324 d 0 0 [(0, .ref a3), (1, .int x2)] [] h (wp_ret SC 34 (d + 1) s 43 [] [] Q)) : wp SC 34 (d + 1) s 38 [(2, .int x2), (3, .ref a3)] [] h Q := by
  refine wp_run 2 (pc' := 40) (lv' := [(2, .int x2), (3, .ref a3)]) (st' := [.int x2, .ref a3]) rfl ?_
  have eA : lv_args 0 (.ref a3 :: [.int x2].reverse) = [(0, .ref a3), (1, .int x2)] := by simp [lv_args, vc_i, vc_l, vc_r, vc_n, vc_a]
  refine wp_callV (ar := [.int x2]) (rest := []) (s1 := 0) (s2 := s) (d' := d) ⟨rfl, rfl⟩ rfl (Or.inl rfl)  (by simp [re_cat, vc_i, vc_l, vc_r, vc_n, vc_a]) (by rw [show re_cat (.ref a3 :: [.int x2].reverse) = 2 from by simp [re_cat, vc_i, vc_l, vc_r, vc_n, vc_a]]; decide) (by decide) rfl eg ec rfl (Nat.le_of_eq (Nat.zero_add s)) ?_
  rw [eA]
  exact wp_mono K (fun k v h' z => wp_ret_weak (re_sb_nil _) z)
theorem B34_43 {SC : List Value} {d s : Nat} {h : re_H} {Q : Nat → Value → re_H → Prop} {ls0 : Int64}
    (K : Q 2 (.long ls0) h) : wp SC 34 d s 43 [] [.long ls0] h Q := by
  exact wp_retl ⟨rfl, rfl⟩ rfl K
theorem B35_0 {SC : List Value} {d s : Nat} {h : re_H} {Q : Nat → Value → re_H → Prop} {a0 : Nat} {x1 : Int32} {x2 : Int32}
    {c : Nat} {w : List Value} (eg : re_hg h a0 = some (c, w)) (ec : c = 0) {s1 s2 : Nat} (hs : s1 + s2 ≤ s) (K : wp SC 19 d s1 0 [(0, .ref a0), (1, .int x1)] [] h (wp_ret SC 35 (d + 1) s2 5 [(0, .ref a0), (1, .int x1), (2, .int x2)] [] Q)) : wp SC 35 (d + 1) s 0 [(0, .ref a0), (1, .int x1), (2, .int x2)] [] h Q := by
  refine wp_run 2 (pc' := 2) (lv' := [(0, .ref a0), (1, .int x1), (2, .int x2)]) (st' := [.int x1, .ref a0]) rfl ?_
  have eA : lv_args 0 (.ref a0 :: [.int x1].reverse) = [(0, .ref a0), (1, .int x1)] := by simp [lv_args, vc_i, vc_l, vc_r, vc_n, vc_a]
  refine wp_callV (ar := [.int x1]) (rest := []) (s1 := s1) (s2 := s2) (d' := d) ⟨rfl, rfl⟩ rfl (Or.inl rfl)  (by simp [re_cat, vc_i, vc_l, vc_r, vc_n, vc_a]) (by rw [show re_cat (.ref a0 :: [.int x1].reverse) = 2 from by simp [re_cat, vc_i, vc_l, vc_r, vc_n, vc_a]]; decide) (by decide) rfl eg ec rfl hs ?_
  rw [eA]
  exact wp_mono K (fun k v h' z => wp_ret_weak (re_sb_at rfl (re_sb_at rfl (re_sb_at rfl (re_sb_nil _)))) z)
theorem B35_5 {SC : List Value} {d s : Nat} {h : re_H} {Q : Nat → Value → re_H → Prop} {a0 : Nat} {x1 : Int32} {x2 : Int32}
    {c : Nat} {w : List Value} (eg : re_hg h a0 = some (c, w)) (ec : c = 0) {s1 s2 : Nat} (hs : s1 + s2 ≤ s) (K : wp SC 5 d s1 0 [(0, .ref a0), (1, .int x2)] [] h (wp_ret SC 35 (d + 1) s2 10 [(0, .ref a0), (1, .int x1), (2, .int x2)] [] Q)) : wp SC 35 (d + 1) s 5 [(0, .ref a0), (1, .int x1), (2, .int x2)] [] h Q := by
  refine wp_run 2 (pc' := 7) (lv' := [(0, .ref a0), (1, .int x1), (2, .int x2)]) (st' := [.int x2, .ref a0]) rfl ?_
  have eA : lv_args 0 (.ref a0 :: [.int x2].reverse) = [(0, .ref a0), (1, .int x2)] := by simp [lv_args, vc_i, vc_l, vc_r, vc_n, vc_a]
  refine wp_callV (ar := [.int x2]) (rest := []) (s1 := s1) (s2 := s2) (d' := d) ⟨rfl, rfl⟩ rfl (Or.inl rfl)  (by simp [re_cat, vc_i, vc_l, vc_r, vc_n, vc_a]) (by rw [show re_cat (.ref a0 :: [.int x2].reverse) = 2 from by simp [re_cat, vc_i, vc_l, vc_r, vc_n, vc_a]]; decide) (by decide) rfl eg ec rfl hs ?_
  rw [eA]
  exact wp_mono K (fun k v h' z => wp_ret_weak (re_sb_at rfl (re_sb_at rfl (re_sb_at rfl (re_sb_nil _)))) z)
theorem B35_10 {SC : List Value} {d s : Nat} {h : re_H} {Q : Nat → Value → re_H → Prop} {a0 : Nat} {x1 : Int32} {x2 : Int32}
    {ae1 : Nat} (e2 : nb_fd h a0 0 7 (.ref ae1)) {c : Nat} {w : List Value} (eg : re_hg h ae1 = some (c, w)) (ec : c = 8) (K : wp SC 523 d 0 0 [(0, .ref ae1)] [] h (wp_ret SC 35 (d + 1) s 17 [(0, .ref a0), (1, .int x1), (2, .int x2)] [] Q)) : wp SC 35 (d + 1) s 10 [(0, .ref a0), (1, .int x1), (2, .int x2)] [] h Q := by
  refine wp_run 1 (pc' := 11) (lv' := [(0, .ref a0), (1, .int x1), (2, .int x2)]) (st' := [.ref a0]) rfl ?_
  obtain ⟨w2, e2a, e2b⟩ := e2
  refine wp_gf ⟨rfl, rfl⟩ rfl e2a e2b ?_
  have eA : lv_args 0 (.ref ae1 :: [].reverse) = [(0, .ref ae1)] := by simp [lv_args, vc_i, vc_l, vc_r, vc_n, vc_a]
  refine wp_callV (ar := []) (rest := []) (s1 := 0) (s2 := s) (d' := d) ⟨rfl, rfl⟩ rfl (Or.inl rfl)  (by simp [re_cat, vc_i, vc_l, vc_r, vc_n, vc_a]) (by rw [show re_cat (.ref ae1 :: [].reverse) = 1 from by simp [re_cat, vc_i, vc_l, vc_r, vc_n, vc_a]]; decide) (by decide) rfl eg ec rfl (Nat.le_of_eq (Nat.zero_add s)) ?_
  rw [eA]
  exact wp_mono K (fun k v h' z => wp_ret_weak (re_sb_at rfl (re_sb_at rfl (re_sb_at rfl (re_sb_nil _)))) z)
theorem B35_17 {SC : List Value} {d s : Nat} {h : re_H} {Q : Nat → Value → re_H → Prop} {a0 : Nat} {x1 : Int32} {x2 : Int32}
    {ae1 : Nat} (e2 : nb_fd h a0 0 7 (.ref ae1)) {c : Nat} {w : List Value} (eg : re_hg h ae1 = some (c, w)) (ec : c = 8) (K : wp SC 513 d 0 0 [(0, .ref ae1), (1, .int (i32 4095))] [] h (wp_ret SC 35 (d + 1) s 27 [(0, .ref a0), (1, .int x1), (2, .int x2)] [] Q)) : wp SC 35 (d + 1) s 17 [(0, .ref a0), (1, .int x1), (2, .int x2)] [] h Q := by
  refine wp_run 1 (pc' := 18) (lv' := [(0, .ref a0), (1, .int x1), (2, .int x2)]) (st' := [.ref a0]) rfl ?_
  obtain ⟨w2, e2a, e2b⟩ := e2
  refine wp_gf ⟨rfl, rfl⟩ rfl e2a e2b ?_
  refine wp_si (x := (i32 4095)) ⟨rfl, rfl⟩ (by decide) ?_
  have eA : lv_args 0 (.ref ae1 :: [.int (i32 4095)].reverse) = [(0, .ref ae1), (1, .int (i32 4095))] := by simp [lv_args, vc_i, vc_l, vc_r, vc_n, vc_a]
  refine wp_callV (ar := [.int (i32 4095)]) (rest := []) (s1 := 0) (s2 := s) (d' := d) ⟨rfl, rfl⟩ rfl (Or.inl rfl)  (by simp [re_cat, vc_i, vc_l, vc_r, vc_n, vc_a]) (by rw [show re_cat (.ref ae1 :: [.int (i32 4095)].reverse) = 2 from by simp [re_cat, vc_i, vc_l, vc_r, vc_n, vc_a]]; decide) (by decide) rfl eg ec rfl (Nat.le_of_eq (Nat.zero_add s)) ?_
  rw [eA]
  exact wp_mono K (fun k v h' z => wp_ret_weak (re_sb_at rfl (re_sb_at rfl (re_sb_at rfl (re_sb_nil _)))) z)
theorem B35_27 {SC : List Value} {d s : Nat} {h : re_H} {Q : Nat → Value → re_H → Prop} {a0 : Nat} {x1 : Int32} {x2 : Int32} {xs0 : Int32}
    {ae1 : Nat} (e2 : nb_fd h a0 0 7 (.ref ae1)) {c : Nat} {w : List Value} (eg : re_hg h ae1 = some (c, w)) (ec : c = 8) (K : wp SC 515 d 0 0 [(0, .ref ae1), (1, .int x1)] [] h (wp_ret SC 35 (d + 1) s 36 [(2, .int x2)] [] Q)) : wp SC 35 (d + 1) s 27 [(0, .ref a0), (1, .int x1), (2, .int x2)] [.int xs0] h Q := by
  refine wp_run 2 (pc' := 29) (lv' := [(0, .ref a0), (1, .int x1), (2, .int x2)]) (st' := [.ref a0]) rfl ?_
  obtain ⟨w2, e2a, e2b⟩ := e2
  refine wp_gf ⟨rfl, rfl⟩ rfl e2a e2b ?_
  refine wp_run 1 (pc' := 33) (lv' := [(0, .ref a0), (1, .int x1), (2, .int x2)]) (st' := [.int x1, .ref ae1]) rfl ?_
  have eA : lv_args 0 (.ref ae1 :: [.int x1].reverse) = [(0, .ref ae1), (1, .int x1)] := by simp [lv_args, vc_i, vc_l, vc_r, vc_n, vc_a]
  refine wp_callV (ar := [.int x1]) (rest := []) (s1 := 0) (s2 := s) (d' := d) ⟨rfl, rfl⟩ rfl (Or.inl rfl)  (by simp [re_cat, vc_i, vc_l, vc_r, vc_n, vc_a]) (by rw [show re_cat (.ref ae1 :: [.int x1].reverse) = 2 from by simp [re_cat, vc_i, vc_l, vc_r, vc_n, vc_a]]; decide) (by decide) rfl eg ec rfl (Nat.le_of_eq (Nat.zero_add s)) ?_
  rw [eA]
  exact wp_mono K (fun k v h' z => wp_ret_weak (re_sb_at rfl (re_sb_nil _)) z)
theorem B35_36 {SC : List Value} {d s : Nat} {h : re_H} {Q : Nat → Value → re_H → Prop} {x2 : Int32} {as0 : Nat}
    {c : Nat} {w : List Value} (eg : re_hg h as0 = some (c, w)) (ec : c = 5) (K : wp SC 322 d 0 0 [(0, .ref as0), (1, .int x2)] [] h (wp_ret SC 35 (d + 1) s 42 [(2, .int x2), (3, .ref as0)] [] Q)) : wp SC 35 (d + 1) s 36 [(2, .int x2)] [.ref as0] h Q := by
  refine wp_run 3 (pc' := 39) (lv' := [(3, .ref as0), (2, .int x2)]) (st' := [.int x2, .ref as0]) rfl ?_
  have eA : lv_args 0 (.ref as0 :: [.int x2].reverse) = [(0, .ref as0), (1, .int x2)] := by simp [lv_args, vc_i, vc_l, vc_r, vc_n, vc_a]
  refine wp_callV (ar := [.int x2]) (rest := []) (s1 := 0) (s2 := s) (d' := d) ⟨rfl, rfl⟩ rfl (Or.inl rfl)  (by simp [re_cat, vc_i, vc_l, vc_r, vc_n, vc_a]) (by rw [show re_cat (.ref as0 :: [.int x2].reverse) = 2 from by simp [re_cat, vc_i, vc_l, vc_r, vc_n, vc_a]]; decide) (by decide) rfl eg ec rfl (Nat.le_of_eq (Nat.zero_add s)) ?_
  rw [eA]
  exact wp_mono K (fun k v h' z => wp_ret_weak (re_sb_at rfl (re_sb_at rfl (re_sb_nil _))) z)
theorem B35_42 {SC : List Value} {d s : Nat} {h : re_H} {Q : Nat → Value → re_H → Prop} {x2 : Int32} {a3 : Nat} {xs0 : Int32}
    (K1 : ¬ xs0 = (i32 1) → wp SC 35 d s 54 [] [] h Q) (K2 : xs0 = (i32 1) → wp SC 35 d s 46 [(2, .int x2), (3, .ref a3)] [] h Q) : wp SC 35 d s 42 [(2, .int x2), (3, .ref a3)] [.int xs0] h Q := by
  refine wp_run 1 (pc' := 43) (lv' := [(2, .int x2), (3, .ref a3)]) (st' := [.int (i32 1), .int xs0]) rfl ?_
  exact wp_cmp ⟨rfl, rfl⟩ rfl (fun hc => wp_weak (re_sb_nil _) (K1 (ic1_ne hc))) (fun hc => wp_weak (re_sb_at rfl (re_sb_at rfl (re_sb_nil _))) (K2 (ic0_ne hc)))
theorem B35_46 {SC : List Value} {d s : Nat} {h : re_H} {Q : Nat → Value → re_H → Prop} {x2 : Int32} {a3 : Nat}
    {c : Nat} {w : List Value} (eg : re_hg h a3 = some (c, w)) (ec : c = 5) (K : wp SC 324 d 0 0 [(0, .ref a3), (1, .int x2)] [] h (wp_ret SC 35 (d + 1) s 51 [] [] Q)) : wp SC 35 (d + 1) s 46 [(2, .int x2), (3, .ref a3)] [] h Q := by
  refine wp_run 2 (pc' := 48) (lv' := [(2, .int x2), (3, .ref a3)]) (st' := [.int x2, .ref a3]) rfl ?_
  have eA : lv_args 0 (.ref a3 :: [.int x2].reverse) = [(0, .ref a3), (1, .int x2)] := by simp [lv_args, vc_i, vc_l, vc_r, vc_n, vc_a]
  refine wp_callV (ar := [.int x2]) (rest := []) (s1 := 0) (s2 := s) (d' := d) ⟨rfl, rfl⟩ rfl (Or.inl rfl)  (by simp [re_cat, vc_i, vc_l, vc_r, vc_n, vc_a]) (by rw [show re_cat (.ref a3 :: [.int x2].reverse) = 2 from by simp [re_cat, vc_i, vc_l, vc_r, vc_n, vc_a]]; decide) (by decide) rfl eg ec rfl (Nat.le_of_eq (Nat.zero_add s)) ?_
  rw [eA]
  exact wp_mono K (fun k v h' z => wp_ret_weak (re_sb_nil _) z)
theorem B35_51 {SC : List Value} {d s : Nat} {h : re_H} {Q : Nat → Value → re_H → Prop} {ls0 : Int64}
    (K : wp SC 35 d s 57 [] [.long ls0] h Q) : wp SC 35 d s 51 [] [.long ls0] h Q := by
  refine wp_run 1 (pc' := 57) (lv' := []) (st' := [.long ls0]) rfl ?_
  exact wp_weak (re_sb_nil _) K
theorem B35_54 {SC : List Value} {d s : Nat} {h : re_H} {Q : Nat → Value → re_H → Prop} 
    (K : wp SC 35 d s 57 [] [.long (-1)] h Q) : wp SC 35 d s 54 [] [] h Q := by
  refine wp_cst (pc' := 57) (v := .long (-1)) ⟨rfl, rfl⟩ rfl rfl rfl rfl rfl ?_
  exact wp_weak (re_sb_nil _) K
theorem B35_57 {SC : List Value} {d s : Nat} {h : re_H} {Q : Nat → Value → re_H → Prop} {ls0 : Int64}
    (K : Q 2 (.long ls0) h) : wp SC 35 d s 57 [] [.long ls0] h Q := by
  exact wp_retl ⟨rfl, rfl⟩ rfl K
theorem B36_0 {SC : List Value} {d s : Nat} {h : re_H} {Q : Nat → Value → re_H → Prop} {a0 : Nat} {x1 : Int32}
    {c : Nat} {w : List Value} (eg : re_hg h a0 = some (c, w)) (ec : c = 0) {s1 s2 : Nat} (hs : s1 + s2 ≤ s) (K : wp SC 19 d s1 0 [(0, .ref a0), (1, .int x1)] [] h (wp_ret SC 36 (d + 1) s2 5 [(0, .ref a0), (1, .int x1)] [] Q)) : wp SC 36 (d + 1) s 0 [(0, .ref a0), (1, .int x1)] [] h Q := by
  refine wp_run 2 (pc' := 2) (lv' := [(0, .ref a0), (1, .int x1)]) (st' := [.int x1, .ref a0]) rfl ?_
  have eA : lv_args 0 (.ref a0 :: [.int x1].reverse) = [(0, .ref a0), (1, .int x1)] := by simp [lv_args, vc_i, vc_l, vc_r, vc_n, vc_a]
  refine wp_callV (ar := [.int x1]) (rest := []) (s1 := s1) (s2 := s2) (d' := d) ⟨rfl, rfl⟩ rfl (Or.inl rfl)  (by simp [re_cat, vc_i, vc_l, vc_r, vc_n, vc_a]) (by rw [show re_cat (.ref a0 :: [.int x1].reverse) = 2 from by simp [re_cat, vc_i, vc_l, vc_r, vc_n, vc_a]]; decide) (by decide) rfl eg ec rfl hs ?_
  rw [eA]
  exact wp_mono K (fun k v h' z => wp_ret_weak (re_sb_at rfl (re_sb_at rfl (re_sb_nil _))) z)
theorem B36_5 {SC : List Value} {d s : Nat} {h : re_H} {Q : Nat → Value → re_H → Prop} {a0 : Nat} {x1 : Int32}
    {ae1 : Nat} (e2 : nb_fd h a0 0 7 (.ref ae1)) {c : Nat} {w : List Value} (eg : re_hg h ae1 = some (c, w)) (ec : c = 8) (K : wp SC 523 d 0 0 [(0, .ref ae1)] [] h (wp_ret SC 36 (d + 1) s 12 [(0, .ref a0), (1, .int x1)] [] Q)) : wp SC 36 (d + 1) s 5 [(0, .ref a0), (1, .int x1)] [] h Q := by
  refine wp_run 1 (pc' := 6) (lv' := [(0, .ref a0), (1, .int x1)]) (st' := [.ref a0]) rfl ?_
  obtain ⟨w2, e2a, e2b⟩ := e2
  refine wp_gf ⟨rfl, rfl⟩ rfl e2a e2b ?_
  have eA : lv_args 0 (.ref ae1 :: [].reverse) = [(0, .ref ae1)] := by simp [lv_args, vc_i, vc_l, vc_r, vc_n, vc_a]
  refine wp_callV (ar := []) (rest := []) (s1 := 0) (s2 := s) (d' := d) ⟨rfl, rfl⟩ rfl (Or.inl rfl)  (by simp [re_cat, vc_i, vc_l, vc_r, vc_n, vc_a]) (by rw [show re_cat (.ref ae1 :: [].reverse) = 1 from by simp [re_cat, vc_i, vc_l, vc_r, vc_n, vc_a]]; decide) (by decide) rfl eg ec rfl (Nat.le_of_eq (Nat.zero_add s)) ?_
  rw [eA]
  exact wp_mono K (fun k v h' z => wp_ret_weak (re_sb_at rfl (re_sb_at rfl (re_sb_nil _))) z)
theorem B36_12 {SC : List Value} {d s : Nat} {h : re_H} {Q : Nat → Value → re_H → Prop} {a0 : Nat} {x1 : Int32}
    {ae1 : Nat} (e2 : nb_fd h a0 0 7 (.ref ae1)) {c : Nat} {w : List Value} (eg : re_hg h ae1 = some (c, w)) (ec : c = 8) (K : wp SC 513 d 0 0 [(0, .ref ae1), (1, .int (i32 4095))] [] h (wp_ret SC 36 (d + 1) s 22 [(0, .ref a0), (1, .int x1)] [] Q)) : wp SC 36 (d + 1) s 12 [(0, .ref a0), (1, .int x1)] [] h Q := by
  refine wp_run 1 (pc' := 13) (lv' := [(0, .ref a0), (1, .int x1)]) (st' := [.ref a0]) rfl ?_
  obtain ⟨w2, e2a, e2b⟩ := e2
  refine wp_gf ⟨rfl, rfl⟩ rfl e2a e2b ?_
  refine wp_si (x := (i32 4095)) ⟨rfl, rfl⟩ (by decide) ?_
  have eA : lv_args 0 (.ref ae1 :: [.int (i32 4095)].reverse) = [(0, .ref ae1), (1, .int (i32 4095))] := by simp [lv_args, vc_i, vc_l, vc_r, vc_n, vc_a]
  refine wp_callV (ar := [.int (i32 4095)]) (rest := []) (s1 := 0) (s2 := s) (d' := d) ⟨rfl, rfl⟩ rfl (Or.inl rfl)  (by simp [re_cat, vc_i, vc_l, vc_r, vc_n, vc_a]) (by rw [show re_cat (.ref ae1 :: [.int (i32 4095)].reverse) = 2 from by simp [re_cat, vc_i, vc_l, vc_r, vc_n, vc_a]]; decide) (by decide) rfl eg ec rfl (Nat.le_of_eq (Nat.zero_add s)) ?_
  rw [eA]
  exact wp_mono K (fun k v h' z => wp_ret_weak (re_sb_at rfl (re_sb_at rfl (re_sb_nil _))) z)
theorem B36_22 {SC : List Value} {d s : Nat} {h : re_H} {Q : Nat → Value → re_H → Prop} {a0 : Nat} {x1 : Int32} {xs0 : Int32}
    {ae1 : Nat} (e2 : nb_fd h a0 0 7 (.ref ae1)) {c : Nat} {w : List Value} (eg : re_hg h ae1 = some (c, w)) (ec : c = 8) (K : wp SC 515 d 0 0 [(0, .ref ae1), (1, .int x1)] [] h (wp_ret SC 36 (d + 1) s 31 [] [] Q)) : wp SC 36 (d + 1) s 22 [(0, .ref a0), (1, .int x1)] [.int xs0] h Q := by
  refine wp_run 2 (pc' := 24) (lv' := [(0, .ref a0), (1, .int x1)]) (st' := [.ref a0]) rfl ?_
  obtain ⟨w2, e2a, e2b⟩ := e2
  refine wp_gf ⟨rfl, rfl⟩ rfl e2a e2b ?_
  refine wp_run 1 (pc' := 28) (lv' := [(0, .ref a0), (1, .int x1)]) (st' := [.int x1, .ref ae1]) rfl ?_
  have eA : lv_args 0 (.ref ae1 :: [.int x1].reverse) = [(0, .ref ae1), (1, .int x1)] := by simp [lv_args, vc_i, vc_l, vc_r, vc_n, vc_a]
  refine wp_callV (ar := [.int x1]) (rest := []) (s1 := 0) (s2 := s) (d' := d) ⟨rfl, rfl⟩ rfl (Or.inl rfl)  (by simp [re_cat, vc_i, vc_l, vc_r, vc_n, vc_a]) (by rw [show re_cat (.ref ae1 :: [.int x1].reverse) = 2 from by simp [re_cat, vc_i, vc_l, vc_r, vc_n, vc_a]]; decide) (by decide) rfl eg ec rfl (Nat.le_of_eq (Nat.zero_add s)) ?_
  rw [eA]
  exact wp_mono K (fun k v h' z => wp_ret_weak (re_sb_nil _) z)
theorem B36_31 {SC : List Value} {d s : Nat} {h : re_H} {Q : Nat → Value → re_H → Prop} {as0 : Nat}
    {xe1 : Int32} (e2 : nb_fd h as0 5 0 (.int xe1)) (K : Q 1 (.int xe1) h) : wp SC 36 d s 31 [] [.ref as0] h Q := by
  obtain ⟨w2, e2a, e2b⟩ := e2
  refine wp_gf ⟨rfl, rfl⟩ rfl e2a e2b ?_
  exact wp_reti ⟨rfl, rfl⟩ rfl K
theorem B37_0 {SC : List Value} {d s : Nat} {h : re_H} {Q : Nat → Value → re_H → Prop} {a0 : Nat} {x1 : Int32}
    {c : Nat} {w : List Value} (eg : re_hg h a0 = some (c, w)) (ec : c = 0) {s1 s2 : Nat} (hs : s1 + s2 ≤ s) (K : wp SC 19 d s1 0 [(0, .ref a0), (1, .int x1)] [] h (wp_ret SC 37 (d + 1) s2 5 [(0, .ref a0), (1, .int x1)] [] Q)) : wp SC 37 (d + 1) s 0 [(0, .ref a0), (1, .int x1)] [] h Q := by
  refine wp_run 2 (pc' := 2) (lv' := [(0, .ref a0), (1, .int x1)]) (st' := [.int x1, .ref a0]) rfl ?_
  have eA : lv_args 0 (.ref a0 :: [.int x1].reverse) = [(0, .ref a0), (1, .int x1)] := by simp [lv_args, vc_i, vc_l, vc_r, vc_n, vc_a]
  refine wp_callV (ar := [.int x1]) (rest := []) (s1 := s1) (s2 := s2) (d' := d) ⟨rfl, rfl⟩ rfl (Or.inl rfl)  (by simp [re_cat, vc_i, vc_l, vc_r, vc_n, vc_a]) (by rw [show re_cat (.ref a0 :: [.int x1].reverse) = 2 from by simp [re_cat, vc_i, vc_l, vc_r, vc_n, vc_a]]; decide) (by decide) rfl eg ec rfl hs ?_
  rw [eA]
  exact wp_mono K (fun k v h' z => wp_ret_weak (re_sb_at rfl (re_sb_at rfl (re_sb_nil _))) z)
theorem B37_5 {SC : List Value} {d s : Nat} {h : re_H} {Q : Nat → Value → re_H → Prop} {a0 : Nat} {x1 : Int32}
    {ae1 : Nat} (e2 : nb_fd h a0 0 4 (.ref ae1)) {ae3 : Nat} (e4 : nb_fd h ae1 3 3 (.ref ae3)) {xe5 : Int32} (e6 : nb_ar h ae3 100 x1 (.int xe5)) (K : Q 1 (.int xe5) h) : wp SC 37 d s 5 [(0, .ref a0), (1, .int x1)] [] h Q := by
  refine wp_run 1 (pc' := 6) (lv' := [(0, .ref a0), (1, .int x1)]) (st' := [.ref a0]) rfl ?_
  obtain ⟨w2, e2a, e2b⟩ := e2
  refine wp_gf ⟨rfl, rfl⟩ rfl e2a e2b ?_
  obtain ⟨w4, e4a, e4b⟩ := e4
  refine wp_gf ⟨rfl, rfl⟩ rfl e4a e4b ?_
  refine wp_run 1 (pc' := 13) (lv' := [(0, .ref a0), (1, .int x1)]) (st' := [.int x1, .ref ae3]) rfl ?_
  obtain ⟨w6, i6, e6a, e6x, e6i, e6v⟩ := e6
  refine wp_ial ⟨rfl, rfl⟩ e6a rfl e6x e6i e6v ?_
  exact wp_reti ⟨rfl, rfl⟩ rfl K
theorem B38_0 {SC : List Value} {d s : Nat} {h : re_H} {Q : Nat → Value → re_H → Prop} {a0 : Nat} {x1 : Int32}
    {c : Nat} {w : List Value} (eg : re_hg h a0 = some (c, w)) (ec : c = 0) {s1 s2 : Nat} (hs : s1 + s2 ≤ s) (K : wp SC 19 d s1 0 [(0, .ref a0), (1, .int x1)] [] h (wp_ret SC 38 (d + 1) s2 5 [(0, .ref a0), (1, .int x1)] [] Q)) : wp SC 38 (d + 1) s 0 [(0, .ref a0), (1, .int x1)] [] h Q := by
  refine wp_run 2 (pc' := 2) (lv' := [(0, .ref a0), (1, .int x1)]) (st' := [.int x1, .ref a0]) rfl ?_
  have eA : lv_args 0 (.ref a0 :: [.int x1].reverse) = [(0, .ref a0), (1, .int x1)] := by simp [lv_args, vc_i, vc_l, vc_r, vc_n, vc_a]
  refine wp_callV (ar := [.int x1]) (rest := []) (s1 := s1) (s2 := s2) (d' := d) ⟨rfl, rfl⟩ rfl (Or.inl rfl)  (by simp [re_cat, vc_i, vc_l, vc_r, vc_n, vc_a]) (by rw [show re_cat (.ref a0 :: [.int x1].reverse) = 2 from by simp [re_cat, vc_i, vc_l, vc_r, vc_n, vc_a]]; decide) (by decide) rfl eg ec rfl hs ?_
  rw [eA]
  exact wp_mono K (fun k v h' z => wp_ret_weak (re_sb_at rfl (re_sb_at rfl (re_sb_nil _))) z)
theorem B38_5 {SC : List Value} {d s : Nat} {h : re_H} {Q : Nat → Value → re_H → Prop} {a0 : Nat} {x1 : Int32}
    {ae1 : Nat} (e2 : nb_fd h a0 0 4 (.ref ae1)) {ae3 : Nat} (e4 : nb_fd h ae1 3 5 (.ref ae3)) {xe5 : Int32} (e6 : nb_ar h ae3 100 x1 (.int xe5)) (K : Q 1 (.int (xe5 ||| ((i32 1) <<< (x1 &&& 31)))) h) : wp SC 38 d s 5 [(0, .ref a0), (1, .int x1)] [] h Q := by
  refine wp_run 1 (pc' := 6) (lv' := [(0, .ref a0), (1, .int x1)]) (st' := [.ref a0]) rfl ?_
  obtain ⟨w2, e2a, e2b⟩ := e2
  refine wp_gf ⟨rfl, rfl⟩ rfl e2a e2b ?_
  obtain ⟨w4, e4a, e4b⟩ := e4
  refine wp_gf ⟨rfl, rfl⟩ rfl e4a e4b ?_
  refine wp_run 1 (pc' := 13) (lv' := [(0, .ref a0), (1, .int x1)]) (st' := [.int x1, .ref ae3]) rfl ?_
  obtain ⟨w6, i6, e6a, e6x, e6i, e6v⟩ := e6
  refine wp_ial ⟨rfl, rfl⟩ e6a rfl e6x e6i e6v ?_
  refine wp_run 4 (pc' := 18) (lv' := [(0, .ref a0), (1, .int x1)]) (st' := [.int (xe5 ||| ((i32 1) <<< (x1 &&& 31)))]) rfl ?_
  exact wp_reti ⟨rfl, rfl⟩ rfl K
theorem B39_0 {SC : List Value} {d s : Nat} {h : re_H} {Q : Nat → Value → re_H → Prop} {a0 : Nat} {x1 : Int32}
    {c : Nat} {w : List Value} (eg : re_hg h a0 = some (c, w)) (ec : c = 0) {s1 s2 : Nat} (hs : s1 + s2 ≤ s) (K : wp SC 19 d s1 0 [(0, .ref a0), (1, .int x1)] [] h (wp_ret SC 39 (d + 1) s2 5 [(0, .ref a0), (1, .int x1)] [] Q)) : wp SC 39 (d + 1) s 0 [(0, .ref a0), (1, .int x1)] [] h Q := by
  refine wp_run 2 (pc' := 2) (lv' := [(0, .ref a0), (1, .int x1)]) (st' := [.int x1, .ref a0]) rfl ?_
  have eA : lv_args 0 (.ref a0 :: [.int x1].reverse) = [(0, .ref a0), (1, .int x1)] := by simp [lv_args, vc_i, vc_l, vc_r, vc_n, vc_a]
  refine wp_callV (ar := [.int x1]) (rest := []) (s1 := s1) (s2 := s2) (d' := d) ⟨rfl, rfl⟩ rfl (Or.inl rfl)  (by simp [re_cat, vc_i, vc_l, vc_r, vc_n, vc_a]) (by rw [show re_cat (.ref a0 :: [.int x1].reverse) = 2 from by simp [re_cat, vc_i, vc_l, vc_r, vc_n, vc_a]]; decide) (by decide) rfl eg ec rfl hs ?_
  rw [eA]
  exact wp_mono K (fun k v h' z => wp_ret_weak (re_sb_at rfl (re_sb_at rfl (re_sb_nil _))) z)
theorem B39_5 {SC : List Value} {d s : Nat} {h : re_H} {Q : Nat → Value → re_H → Prop} {a0 : Nat} {x1 : Int32}
    {ae1 : Nat} (e2 : nb_fd h a0 0 6 (.ref ae1)) {c : Nat} {w : List Value} (eg : re_hg h ae1 = some (c, w)) (ec : c = 8) (K : wp SC 515 d 0 0 [(0, .ref ae1), (1, .int x1)] [] h (wp_ret SC 39 (d + 1) s 13 [] [] Q)) : wp SC 39 (d + 1) s 5 [(0, .ref a0), (1, .int x1)] [] h Q := by
  refine wp_run 1 (pc' := 6) (lv' := [(0, .ref a0), (1, .int x1)]) (st' := [.ref a0]) rfl ?_
  obtain ⟨w2, e2a, e2b⟩ := e2
  refine wp_gf ⟨rfl, rfl⟩ rfl e2a e2b ?_
  refine wp_run 1 (pc' := 10) (lv' := [(0, .ref a0), (1, .int x1)]) (st' := [.int x1, .ref ae1]) rfl ?_
  have eA : lv_args 0 (.ref ae1 :: [.int x1].reverse) = [(0, .ref ae1), (1, .int x1)] := by simp [lv_args, vc_i, vc_l, vc_r, vc_n, vc_a]
  refine wp_callV (ar := [.int x1]) (rest := []) (s1 := 0) (s2 := s) (d' := d) ⟨rfl, rfl⟩ rfl (Or.inl rfl)  (by simp [re_cat, vc_i, vc_l, vc_r, vc_n, vc_a]) (by rw [show re_cat (.ref ae1 :: [.int x1].reverse) = 2 from by simp [re_cat, vc_i, vc_l, vc_r, vc_n, vc_a]]; decide) (by decide) rfl eg ec rfl (Nat.le_of_eq (Nat.zero_add s)) ?_
  rw [eA]
  exact wp_mono K (fun k v h' z => wp_ret_weak (re_sb_nil _) z)
theorem B39_13 {SC : List Value} {d s : Nat} {h : re_H} {Q : Nat → Value → re_H → Prop} {as0 : Nat}
    {xe1 : Int32} (e2 : nb_fd h as0 5 1 (.int xe1)) (K : Q 1 (.int xe1) h) : wp SC 39 d s 13 [] [.ref as0] h Q := by
  obtain ⟨w2, e2a, e2b⟩ := e2
  refine wp_gf ⟨rfl, rfl⟩ rfl e2a e2b ?_
  exact wp_reti ⟨rfl, rfl⟩ rfl K
