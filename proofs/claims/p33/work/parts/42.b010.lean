theorem B64_0 {SC : List Value} {d s : Nat} {h : re_H} {Q : Nat → Value → re_H → Prop} {a0 : Nat}
    (K : wp SC 64 d s 4 [(0, .ref a0)] [] h Q) : wp SC 64 d s 0 [(0, .ref a0)] [] h Q := by
  refine wp_run 1 (pc' := 1) (lv' := [(0, .ref a0)]) (st' := [.ref a0]) rfl ?_
  refine wp_obj ⟨rfl, rfl⟩ rfl (by simp [re_cat, vc_i, vc_l, vc_r, vc_n, vc_a]) ?_
  exact wp_weak (re_sb_at rfl (re_sb_nil _)) K
theorem B64_4 {SC : List Value} {d s : Nat} {h : re_H} {Q : Nat → Value → re_H → Prop} {a0 : Nat}
    {s' i : Nat} (hx : (i32 12) = i32 i) (hn : i * 8 ≤ 536870912) (hs : i + 2 * s' ≤ 11 + 2 * s) (hs' : s' ≤ s) (K : wp SC 64 d s' 9 [(0, .ref a0)] [.ref h.1, .ref a0] (re_hq h (102, List.replicate i (.int 0))) Q) : wp SC 64 d s 4 [(0, .ref a0)] [] h Q := by
  refine wp_run 1 (pc' := 5) (lv' := [(0, .ref a0)]) (st' := [.ref a0]) rfl ?_
  refine wp_bi (x := (i32 12)) ⟨rfl, rfl⟩ (by decide) ?_
  exact wp_na ⟨rfl, rfl⟩ hx hn (Or.inr (Or.inr ⟨rfl, rfl, rfl⟩)) hs hs' (wp_weak (re_sb_at rfl (re_sb_nil _)) K)
theorem B64_9 {SC : List Value} {d s : Nat} {h : re_H} {Q : Nat → Value → re_H → Prop} {a0 : Nat} {as0 : Nat} {as1 : Nat}
    {w : List Value} (e : re_hg h as1 = some (1, w)) (hk : 0 < w.length) (K : wp SC 64 d s 12 [(0, .ref a0)] [] (re_hw h as1 (1, w.set 0 (.ref as0))) Q) : wp SC 64 d s 9 [(0, .ref a0)] [.ref as0, .ref as1] h Q := by
  exact wp_pf ⟨rfl, rfl⟩ rfl (Or.inr ⟨rfl, rfl⟩) e hk (fit_a (Or.inr ⟨_, rfl⟩)) (wp_weak (re_sb_at rfl (re_sb_nil _)) K)
theorem B64_12 {SC : List Value} {d s : Nat} {h : re_H} {Q : Nat → Value → re_H → Prop} {a0 : Nat}
    {s' i : Nat} (hx : (i32 12) = i32 i) (hn : i * 8 ≤ 536870912) (hs : i + 2 * s' ≤ 11 + 2 * s) (hs' : s' ≤ s) (K : wp SC 64 d s' 18 [(0, .ref a0)] [.ref h.1, .ref a0] (re_hq h (104, List.replicate i .null)) Q) : wp SC 64 d s 12 [(0, .ref a0)] [] h Q := by
  refine wp_run 1 (pc' := 13) (lv' := [(0, .ref a0)]) (st' := [.ref a0]) rfl ?_
  refine wp_bi (x := (i32 12)) ⟨rfl, rfl⟩ (by decide) ?_
  exact wp_ana ⟨rfl, rfl⟩ rfl hx hn hs hs' (wp_weak (re_sb_at rfl (re_sb_nil _)) K)
theorem B64_18 {SC : List Value} {d s : Nat} {h : re_H} {Q : Nat → Value → re_H → Prop} {a0 : Nat} {as0 : Nat} {as1 : Nat}
    {w : List Value} (e : re_hg h as1 = some (1, w)) (hk : 1 < w.length) (K : wp SC 64 d s 21 [(0, .ref a0)] [] (re_hw h as1 (1, w.set 1 (.ref as0))) Q) : wp SC 64 d s 18 [(0, .ref a0)] [.ref as0, .ref as1] h Q := by
  exact wp_pf ⟨rfl, rfl⟩ rfl (Or.inr ⟨rfl, rfl⟩) e hk (fit_a (Or.inr ⟨_, rfl⟩)) (wp_weak (re_sb_at rfl (re_sb_nil _)) K)
theorem B64_21 {SC : List Value} {d s : Nat} {h : re_H} {Q : Nat → Value → re_H → Prop} {a0 : Nat}
    (K : wp SC 64 d s 23 [(0, .ref a0), (1, .int (i32 0))] [] h Q) : wp SC 64 d s 21 [(0, .ref a0)] [] h Q := by
  refine wp_run 2 (pc' := 23) (lv' := [(1, .int (i32 0)), (0, .ref a0)]) (st' := []) rfl ?_
  exact wp_weak (re_sb_at rfl (re_sb_at rfl (re_sb_nil _))) K
theorem B64_23 {SC : List Value} {d s : Nat} {h : re_H} {Q : Nat → Value → re_H → Prop} {a0 : Nat} {x1 : Int32}
    (K1 : ¬ x1 < (i32 12) → wp SC 64 d s 48 [] [] h Q) (K2 : x1 < (i32 12) → wp SC 64 d s 29 [(0, .ref a0), (1, .int x1)] [] h Q) : wp SC 64 d s 23 [(0, .ref a0), (1, .int x1)] [] h Q := by
  refine wp_run 1 (pc' := 24) (lv' := [(0, .ref a0), (1, .int x1)]) (st' := [.int x1]) rfl ?_
  refine wp_bi (x := (i32 12)) ⟨rfl, rfl⟩ (by decide) ?_
  exact wp_cmp ⟨rfl, rfl⟩ rfl (fun hc => wp_weak (re_sb_nil _) (K1 (ic1_ge hc))) (fun hc => wp_weak (re_sb_at rfl (re_sb_at rfl (re_sb_nil _))) (K2 (ic0_ge hc)))
theorem B64_29 {SC : List Value} {d s : Nat} {h : re_H} {Q : Nat → Value → re_H → Prop} {a0 : Nat} {x1 : Int32}
    {ae1 : Nat} (e2 : nb_fd h a0 1 1 (.ref ae1)) (K : wp SC 64 d s 37 [(0, .ref a0), (1, .int x1)] [.ref h.1, .int x1, .ref ae1] (re_hq h (2, [.int 0, .null, .null])) Q) : wp SC 64 d s 29 [(0, .ref a0), (1, .int x1)] [] h Q := by
  refine wp_run 1 (pc' := 30) (lv' := [(0, .ref a0), (1, .int x1)]) (st' := [.ref a0]) rfl ?_
  obtain ⟨w2, e2a, e2b⟩ := e2
  refine wp_gf ⟨rfl, rfl⟩ rfl e2a e2b ?_
  refine wp_run 1 (pc' := 34) (lv' := [(0, .ref a0), (1, .int x1)]) (st' := [.int x1, .ref ae1]) rfl ?_
  exact wp_new (vs := [.int 0, .null, .null]) ⟨rfl, rfl⟩ rfl (by decide) (by decide) (wp_weak (re_sb_at rfl (re_sb_at rfl (re_sb_nil _))) K)
theorem B64_37 {SC : List Value} {d s : Nat} {h : re_H} {Q : Nat → Value → re_H → Prop} {a0 : Nat} {x1 : Int32} {as0 : Nat} {xs1 : Int32} {as2 : Nat}
    {c : Nat} {w : List Value} (eg : re_hg h as0 = some (c, w)) (ec : c = 2) (K : wp SC 128 d 0 0 [(0, .ref as0)] [] h (wp_ret SC 64 (d + 1) s 41 [(0, .ref a0), (1, .int x1)] [.ref as0, .int xs1, .ref as2] Q)) : wp SC 64 (d + 1) s 37 [(0, .ref a0), (1, .int x1)] [.ref as0, .int xs1, .ref as2] h Q := by
  refine wp_run 1 (pc' := 38) (lv' := [(0, .ref a0), (1, .int x1)]) (st' := [.ref as0, .ref as0, .int xs1, .ref as2]) rfl ?_
  have eA : lv_args 0 (.ref as0 :: [].reverse) = [(0, .ref as0)] := by simp [lv_args, vc_i, vc_l, vc_r, vc_n, vc_a]
  refine wp_callI (ar := []) (rest := [.ref as0, .int xs1, .ref as2]) (s1 := 0) (s2 := s) (d' := d) ⟨rfl, rfl⟩ rfl (Or.inr rfl)  (by simp [re_cat, vc_i, vc_l, vc_r, vc_n, vc_a]) (by rw [show re_cat (.ref as0 :: [].reverse) = 1 from by simp [re_cat, vc_i, vc_l, vc_r, vc_n, vc_a]]; decide) (by decide) rfl eg ec rfl (Nat.le_of_eq (Nat.zero_add s)) ?_
  rw [eA]
  exact wp_mono K (fun k v h' z => wp_ret_weak (re_sb_at rfl (re_sb_at rfl (re_sb_nil _))) z)
theorem B64_41 {SC : List Value} {d s : Nat} {h : re_H} {Q : Nat → Value → re_H → Prop} {a0 : Nat} {x1 : Int32} {as0 : Nat} {xs1 : Int32} {as2 : Nat}
    {w : List Value} {i : Nat} (e : re_hg h as2 = some (104, w)) (hx : xs1 = i32 i) (hi : i < 2147483648) (hl : i < w.length) (hv : Value.ref as0 = .null ∨ ∃ (b : Nat) (ws : List Value), Value.ref as0 = .ref b ∧ re_hg h b = some (2, ws)) (K : wp SC 64 d s 42 [(0, .ref a0), (1, .int x1)] [] (re_hw h as2 (104, w.set i (.ref as0))) Q) : wp SC 64 d s 41 [(0, .ref a0), (1, .int x1)] [.ref as0, .int xs1, .ref as2] h Q := by
  exact wp_aas ⟨rfl, rfl⟩ e ⟨by decide, by decide⟩ hx hi hl (hv.elim Or.inl (fun z => by obtain ⟨b, ws, z1, z2⟩ := z; exact Or.inr ⟨b, _, ws, z1, z2, by decide⟩)) (wp_weak (re_sb_at rfl (re_sb_at rfl (re_sb_nil _))) K)
theorem B64_42 {SC : List Value} {d s : Nat} {h : re_H} {Q : Nat → Value → re_H → Prop} {a0 : Nat} {x1 : Int32}
    (K : wp SC 64 d s 23 [(0, .ref a0), (1, .int (x1 + (i32 1)))] [] h Q) : wp SC 64 d s 42 [(0, .ref a0), (1, .int x1)] [] h Q := by
  refine wp_run 2 (pc' := 23) (lv' := [(1, .int (x1 + (i32 1))), (0, .ref a0)]) (st' := []) rfl ?_
  exact wp_weak (re_sb_at rfl (re_sb_at rfl (re_sb_nil _))) K
theorem B64_48 {SC : List Value} {d s : Nat} {h : re_H} {Q : Nat → Value → re_H → Prop} 
    (K : Q 0 .null h) : wp SC 64 d s 48 [] [] h Q := by
  exact wp_retv ⟨rfl, rfl⟩ rfl K
theorem B65_0 {SC : List Value} {d s : Nat} {h : re_H} {Q : Nat → Value → re_H → Prop} {a0 : Nat}
    (K : wp SC 65 d s 4 [(0, .ref a0), (1, .int (i32 0)), (2, .int (i32 0))] [] h Q) : wp SC 65 d s 0 [(0, .ref a0)] [] h Q := by
  refine wp_run 4 (pc' := 4) (lv' := [(2, .int (i32 0)), (1, .int (i32 0)), (0, .ref a0)]) (st' := []) rfl ?_
  exact wp_weak (re_sb_at rfl (re_sb_at rfl (re_sb_at rfl (re_sb_nil _)))) K
theorem B65_4 {SC : List Value} {d s : Nat} {h : re_H} {Q : Nat → Value → re_H → Prop} {a0 : Nat} {x1 : Int32} {x2 : Int32}
    (K1 : ¬ x2 < (i32 12) → wp SC 65 d s 35 [(1, .int x1)] [] h Q) (K2 : x2 < (i32 12) → wp SC 65 d s 10 [(0, .ref a0), (1, .int x1), (2, .int x2)] [] h Q) : wp SC 65 d s 4 [(0, .ref a0), (1, .int x1), (2, .int x2)] [] h Q := by
  refine wp_run 1 (pc' := 5) (lv' := [(0, .ref a0), (1, .int x1), (2, .int x2)]) (st' := [.int x2]) rfl ?_
  refine wp_bi (x := (i32 12)) ⟨rfl, rfl⟩ (by decide) ?_
  exact wp_cmp ⟨rfl, rfl⟩ rfl (fun hc => wp_weak (re_sb_at rfl (re_sb_nil _)) (K1 (ic1_ge hc))) (fun hc => wp_weak (re_sb_at rfl (re_sb_at rfl (re_sb_at rfl (re_sb_nil _)))) (K2 (ic0_ge hc)))
theorem B65_10 {SC : List Value} {d s : Nat} {h : re_H} {Q : Nat → Value → re_H → Prop} {a0 : Nat} {x1 : Int32} {x2 : Int32}
    {ae1 : Nat} (e2 : nb_fd h a0 1 0 (.ref ae1)) {xe3 : Int32} (e4 : nb_ar h ae1 102 x2 (.int xe3)) (K1 : xe3 = 0 → wp SC 65 d s 26 [(0, .ref a0), (2, .int x2)] [.int x1] h Q) (K2 : ¬ xe3 = 0 → wp SC 65 d s 20 [(0, .ref a0), (2, .int x2)] [.int x1] h Q) : wp SC 65 d s 10 [(0, .ref a0), (1, .int x1), (2, .int x2)] [] h Q := by
  refine wp_run 2 (pc' := 12) (lv' := [(0, .ref a0), (1, .int x1), (2, .int x2)]) (st' := [.ref a0, .int x1]) rfl ?_
  obtain ⟨w2, e2a, e2b⟩ := e2
  refine wp_gf ⟨rfl, rfl⟩ rfl e2a e2b ?_
  refine wp_run 1 (pc' := 16) (lv' := [(0, .ref a0), (1, .int x1), (2, .int x2)]) (st' := [.int x2, .ref ae1, .int x1]) rfl ?_
  obtain ⟨w4, i4, e4a, e4x, e4i, e4v⟩ := e4
  refine wp_bal ⟨rfl, rfl⟩ e4a rfl e4x e4i e4v ?_
  exact wp_if ⟨rfl, rfl⟩ rfl (fun hc => wp_weak (re_sb_at rfl (re_sb_at rfl (re_sb_nil _))) (K1 (ic1_eq hc))) (fun hc => wp_weak (re_sb_at rfl (re_sb_at rfl (re_sb_nil _))) (K2 (ic0_eq hc)))
theorem B65_20 {SC : List Value} {d s : Nat} {h : re_H} {Q : Nat → Value → re_H → Prop} {a0 : Nat} {x2 : Int32} {xs0 : Int32}
    (K : wp SC 65 d s 27 [(0, .ref a0), (2, .int x2)] [.int ((i32 1) <<< (x2 &&& 31)), .int xs0] h Q) : wp SC 65 d s 20 [(0, .ref a0), (2, .int x2)] [.int xs0] h Q := by
  refine wp_run 4 (pc' := 27) (lv' := [(0, .ref a0), (2, .int x2)]) (st' := [.int ((i32 1) <<< (x2 &&& 31)), .int xs0]) rfl ?_
  exact wp_weak (re_sb_at rfl (re_sb_at rfl (re_sb_nil _))) K
theorem B65_26 {SC : List Value} {d s : Nat} {h : re_H} {Q : Nat → Value → re_H → Prop} {a0 : Nat} {x2 : Int32} {xs0 : Int32}
    (K : wp SC 65 d s 27 [(0, .ref a0), (2, .int x2)] [.int (i32 0), .int xs0] h Q) : wp SC 65 d s 26 [(0, .ref a0), (2, .int x2)] [.int xs0] h Q := by
  refine wp_run 1 (pc' := 27) (lv' := [(0, .ref a0), (2, .int x2)]) (st' := [.int (i32 0), .int xs0]) rfl ?_
  exact wp_weak (re_sb_at rfl (re_sb_at rfl (re_sb_nil _))) K
theorem B65_27 {SC : List Value} {d s : Nat} {h : re_H} {Q : Nat → Value → re_H → Prop} {a0 : Nat} {x2 : Int32} {xs0 : Int32} {xs1 : Int32}
    (K : wp SC 65 d s 4 [(0, .ref a0), (1, .int (xs1 ||| xs0)), (2, .int (x2 + (i32 1)))] [] h Q) : wp SC 65 d s 27 [(0, .ref a0), (2, .int x2)] [.int xs0, .int xs1] h Q := by
  refine wp_run 4 (pc' := 4) (lv' := [(2, .int (x2 + (i32 1))), (1, .int (xs1 ||| xs0)), (0, .ref a0)]) (st' := []) rfl ?_
  exact wp_weak (re_sb_at rfl (re_sb_at rfl (re_sb_at rfl (re_sb_nil _)))) K
theorem B65_35 {SC : List Value} {d s : Nat} {h : re_H} {Q : Nat → Value → re_H → Prop} {x1 : Int32}
    (K : Q 1 (.int x1) h) : wp SC 65 d s 35 [(1, .int x1)] [] h Q := by
  refine wp_run 1 (pc' := 36) (lv' := [(1, .int x1)]) (st' := [.int x1]) rfl ?_
  exact wp_reti ⟨rfl, rfl⟩ rfl K
theorem B66_0 {SC : List Value} {d s : Nat} {h : re_H} {Q : Nat → Value → re_H → Prop} {a0 : Nat} {x1 : Int32}
    {ae1 : Nat} (e2 : nb_fd h a0 1 0 (.ref ae1)) {w : List Value} {i : Nat} (e : re_hg h ae1 = some (102, w)) (hx : x1 = i32 i) (hi : i < 2147483648) (hl : i < w.length) (K : wp SC 66 d s 7 [(0, .ref a0), (1, .int x1)] [] (re_hw h ae1 (102, w.set i (.int (vp_nar .boolean (i32 0))))) Q) : wp SC 66 d s 0 [(0, .ref a0), (1, .int x1)] [] h Q := by
  refine wp_run 1 (pc' := 1) (lv' := [(0, .ref a0), (1, .int x1)]) (st' := [.ref a0]) rfl ?_
  obtain ⟨w2, e2a, e2b⟩ := e2
  refine wp_gf ⟨rfl, rfl⟩ rfl e2a e2b ?_
  refine wp_run 2 (pc' := 6) (lv' := [(0, .ref a0), (1, .int x1)]) (st' := [.int (i32 0), .int x1, .ref ae1]) rfl ?_
  exact wp_bas ⟨rfl, rfl⟩ e rfl hx hi hl (wp_weak (re_sb_at rfl (re_sb_at rfl (re_sb_nil _))) K)
theorem B66_7 {SC : List Value} {d s : Nat} {h : re_H} {Q : Nat → Value → re_H → Prop} {a0 : Nat} {x1 : Int32}
    {ae1 : Nat} (e2 : nb_fd h a0 1 1 (.ref ae1)) {ae3 : Nat} (e4 : nb_ar h ae1 104 x1 (.ref ae3)) {c : Nat} {w : List Value} (eg : re_hg h ae3 = some (c, w)) (ec : c = 2) (K : wp SC 138 d 0 0 [(0, .ref ae3)] [] h (wp_ret SC 66 (d + 1) s 16 [] [] Q)) : wp SC 66 (d + 1) s 7 [(0, .ref a0), (1, .int x1)] [] h Q := by
  refine wp_run 1 (pc' := 8) (lv' := [(0, .ref a0), (1, .int x1)]) (st' := [.ref a0]) rfl ?_
  obtain ⟨w2, e2a, e2b⟩ := e2
  refine wp_gf ⟨rfl, rfl⟩ rfl e2a e2b ?_
  refine wp_run 1 (pc' := 12) (lv' := [(0, .ref a0), (1, .int x1)]) (st' := [.int x1, .ref ae1]) rfl ?_
  obtain ⟨w4, i4, e4a, e4x, e4i, e4v⟩ := e4
  refine wp_aal ⟨rfl, rfl⟩ e4a ⟨by decide, by decide⟩ e4x e4i e4v ?_
  have eA : lv_args 0 (.ref ae3 :: [].reverse) = [(0, .ref ae3)] := by simp [lv_args, vc_i, vc_l, vc_r, vc_n, vc_a]
  refine wp_callV (ar := []) (rest := []) (s1 := 0) (s2 := s) (d' := d) ⟨rfl, rfl⟩ rfl (Or.inl rfl)  (by simp [re_cat, vc_i, vc_l, vc_r, vc_n, vc_a]) (by rw [show re_cat (.ref ae3 :: [].reverse) = 1 from by simp [re_cat, vc_i, vc_l, vc_r, vc_n, vc_a]]; decide) (by decide) rfl eg ec rfl (Nat.le_of_eq (Nat.zero_add s)) ?_
  rw [eA]
  exact wp_mono K (fun k v h' z => wp_ret_weak (re_sb_nil _) z)
theorem B66_16 {SC : List Value} {d s : Nat} {h : re_H} {Q : Nat → Value → re_H → Prop} 
    (K : Q 0 .null h) : wp SC 66 d s 16 [] [] h Q := by
  exact wp_retv ⟨rfl, rfl⟩ rfl K
theorem B67_0 {SC : List Value} {d s : Nat} {h : re_H} {Q : Nat → Value → re_H → Prop} {a0 : Nat} {x1 : Int32}
    (K : wp SC 67 d s 2 [(0, .ref a0), (1, .int x1), (2, .int (i32 0))] [] h Q) : wp SC 67 d s 0 [(0, .ref a0), (1, .int x1)] [] h Q := by
  refine wp_run 2 (pc' := 2) (lv' := [(2, .int (i32 0)), (0, .ref a0), (1, .int x1)]) (st' := []) rfl ?_
  exact wp_weak (re_sb_at rfl (re_sb_at rfl (re_sb_at rfl (re_sb_nil _)))) K
theorem B67_2 {SC : List Value} {d s : Nat} {h : re_H} {Q : Nat → Value → re_H → Prop} {a0 : Nat} {x1 : Int32} {x2 : Int32}
    (K1 : ¬ x2 < (i32 12) → wp SC 67 d s 33 [] [] h Q) (K2 : x2 < (i32 12) → wp SC 67 d s 8 [(0, .ref a0), (1, .int x1), (2, .int x2)] [] h Q) : wp SC 67 d s 2 [(0, .ref a0), (1, .int x1), (2, .int x2)] [] h Q := by
  refine wp_run 1 (pc' := 3) (lv' := [(0, .ref a0), (1, .int x1), (2, .int x2)]) (st' := [.int x2]) rfl ?_
  refine wp_bi (x := (i32 12)) ⟨rfl, rfl⟩ (by decide) ?_
  exact wp_cmp ⟨rfl, rfl⟩ rfl (fun hc => wp_weak (re_sb_nil _) (K1 (ic1_ge hc))) (fun hc => wp_weak (re_sb_at rfl (re_sb_at rfl (re_sb_at rfl (re_sb_nil _)))) (K2 (ic0_ge hc)))
theorem B67_8 {SC : List Value} {d s : Nat} {h : re_H} {Q : Nat → Value → re_H → Prop} {a0 : Nat} {x1 : Int32} {x2 : Int32}
    {ae1 : Nat} (e2 : nb_fd h a0 1 1 (.ref ae1)) {ae3 : Nat} (e4 : nb_ar h ae1 104 x2 (.ref ae3)) {c : Nat} {w : List Value} (eg : re_hg h ae3 = some (c, w)) (ec : c = 2) (K : wp SC 139 d 0 0 [(0, .ref ae3)] [] h (wp_ret SC 67 (d + 1) s 17 [(0, .ref a0), (1, .int x1), (2, .int x2)] [] Q)) : wp SC 67 (d + 1) s 8 [(0, .ref a0), (1, .int x1), (2, .int x2)] [] h Q := by
  refine wp_run 1 (pc' := 9) (lv' := [(0, .ref a0), (1, .int x1), (2, .int x2)]) (st' := [.ref a0]) rfl ?_
  obtain ⟨w2, e2a, e2b⟩ := e2
  refine wp_gf ⟨rfl, rfl⟩ rfl e2a e2b ?_
  refine wp_run 1 (pc' := 13) (lv' := [(0, .ref a0), (1, .int x1), (2, .int x2)]) (st' := [.int x2, .ref ae1]) rfl ?_
  obtain ⟨w4, i4, e4a, e4x, e4i, e4v⟩ := e4
  refine wp_aal ⟨rfl, rfl⟩ e4a ⟨by decide, by decide⟩ e4x e4i e4v ?_
  have eA : lv_args 0 (.ref ae3 :: [].reverse) = [(0, .ref ae3)] := by simp [lv_args, vc_i, vc_l, vc_r, vc_n, vc_a]
  refine wp_callV (ar := []) (rest := []) (s1 := 0) (s2 := s) (d' := d) ⟨rfl, rfl⟩ rfl (Or.inl rfl)  (by simp [re_cat, vc_i, vc_l, vc_r, vc_n, vc_a]) (by rw [show re_cat (.ref ae3 :: [].reverse) = 1 from by simp [re_cat, vc_i, vc_l, vc_r, vc_n, vc_a]]; decide) (by decide) rfl eg ec rfl (Nat.le_of_eq (Nat.zero_add s)) ?_
  rw [eA]
  exact wp_mono K (fun k v h' z => wp_ret_weak (re_sb_at rfl (re_sb_at rfl (re_sb_at rfl (re_sb_nil _)))) z)
theorem B67_17 {SC : List Value} {d s : Nat} {h : re_H} {Q : Nat → Value → re_H → Prop} {a0 : Nat} {x1 : Int32} {x2 : Int32} {xs0 : Int32}
    (K1 : ¬ ((xs0 >>> (x1 &&& 31)) &&& (i32 1)) = (i32 1) → wp SC 67 d s 27 [(0, .ref a0), (1, .int x1), (2, .int x2)] [] h Q) (K2 : ((xs0 >>> (x1 &&& 31)) &&& (i32 1)) = (i32 1) → wp SC 67 d s 25 [] [] h Q) : wp SC 67 d s 17 [(0, .ref a0), (1, .int x1), (2, .int x2)] [.int xs0] h Q := by
  refine wp_run 5 (pc' := 22) (lv' := [(0, .ref a0), (1, .int x1), (2, .int x2)]) (st' := [.int (i32 1), .int ((xs0 >>> (x1 &&& 31)) &&& (i32 1))]) rfl ?_
  exact wp_cmp ⟨rfl, rfl⟩ rfl (fun hc => wp_weak (re_sb_at rfl (re_sb_at rfl (re_sb_at rfl (re_sb_nil _)))) (K1 (ic1_ne hc))) (fun hc => wp_weak (re_sb_nil _) (K2 (ic0_ne hc)))
theorem B67_25 {SC : List Value} {d s : Nat} {h : re_H} {Q : Nat → Value → re_H → Prop} 
    (K : Q 1 (.int (i32 1)) h) : wp SC 67 d s 25 [] [] h Q := by
  refine wp_run 1 (pc' := 26) (lv' := []) (st' := [.int (i32 1)]) rfl ?_
  exact wp_retz ⟨rfl, rfl⟩ rfl (Or.inr rfl) K
theorem B67_27 {SC : List Value} {d s : Nat} {h : re_H} {Q : Nat → Value → re_H → Prop} {a0 : Nat} {x1 : Int32} {x2 : Int32}
    (K : wp SC 67 d s 2 [(0, .ref a0), (1, .int x1), (2, .int (x2 + (i32 1)))] [] h Q) : wp SC 67 d s 27 [(0, .ref a0), (1, .int x1), (2, .int x2)] [] h Q := by
  refine wp_run 2 (pc' := 2) (lv' := [(2, .int (x2 + (i32 1))), (0, .ref a0), (1, .int x1)]) (st' := []) rfl ?_
  exact wp_weak (re_sb_at rfl (re_sb_at rfl (re_sb_at rfl (re_sb_nil _)))) K
theorem B67_33 {SC : List Value} {d s : Nat} {h : re_H} {Q : Nat → Value → re_H → Prop} 
    (K : Q 1 (.int (i32 0)) h) : wp SC 67 d s 33 [] [] h Q := by
  refine wp_run 1 (pc' := 34) (lv' := []) (st' := [.int (i32 0)]) rfl ?_
  exact wp_retz ⟨rfl, rfl⟩ rfl (Or.inl rfl) K
theorem B68_0 {SC : List Value} {d s : Nat} {h : re_H} {Q : Nat → Value → re_H → Prop} {a0 : Nat} {x1 : Int32} {x2 : Int32}
    (K : wp SC 68 d s 5 [(0, .ref a0), (1, .int x1), (2, .int x2), (3, .int (i32 0)), (4, .int (i32 0))] [] h Q) : wp SC 68 d s 0 [(0, .ref a0), (1, .int x1), (2, .int x2)] [] h Q := by
  refine wp_run 4 (pc' := 5) (lv' := [(4, .int (i32 0)), (3, .int (i32 0)), (0, .ref a0), (1, .int x1), (2, .int x2)]) (st' := []) rfl ?_
  exact wp_weak (re_sb_at rfl (re_sb_at rfl (re_sb_at rfl (re_sb_at rfl (re_sb_at rfl (re_sb_nil _)))))) K
theorem B68_5 {SC : List Value} {d s : Nat} {h : re_H} {Q : Nat → Value → re_H → Prop} {a0 : Nat} {x1 : Int32} {x2 : Int32} {x3 : Int32} {x4 : Int32}
    (K1 : ¬ x4 < (i32 12) → wp SC 68 d s 33 [(3, .int x3)] [] h Q) (K2 : x4 < (i32 12) → wp SC 68 d s 12 [(0, .ref a0), (1, .int x1), (2, .int x2), (3, .int x3), (4, .int x4)] [] h Q) : wp SC 68 d s 5 [(0, .ref a0), (1, .int x1), (2, .int x2), (3, .int x3), (4, .int x4)] [] h Q := by
  refine wp_run 1 (pc' := 7) (lv' := [(0, .ref a0), (1, .int x1), (2, .int x2), (3, .int x3), (4, .int x4)]) (st' := [.int x4]) rfl ?_
  refine wp_bi (x := (i32 12)) ⟨rfl, rfl⟩ (by decide) ?_
  exact wp_cmp ⟨rfl, rfl⟩ rfl (fun hc => wp_weak (re_sb_at rfl (re_sb_nil _)) (K1 (ic1_ge hc))) (fun hc => wp_weak (re_sb_at rfl (re_sb_at rfl (re_sb_at rfl (re_sb_at rfl (re_sb_at rfl (re_sb_nil _)))))) (K2 (ic0_ge hc)))
theorem B68_12 {SC : List Value} {d s : Nat} {h : re_H} {Q : Nat → Value → re_H → Prop} {a0 : Nat} {x1 : Int32} {x2 : Int32} {x3 : Int32} {x4 : Int32}
    {ae1 : Nat} (e2 : nb_fd h a0 1 1 (.ref ae1)) {ae3 : Nat} (e4 : nb_ar h ae1 104 x4 (.ref ae3)) {c : Nat} {w : List Value} (eg : re_hg h ae3 = some (c, w)) (ec : c = 2) (K : wp SC 140 d 0 0 [(0, .ref ae3), (1, .int x1), (2, .int x2)] [] h (wp_ret SC 68 (d + 1) s 25 [(0, .ref a0), (1, .int x1), (2, .int x2), (4, .int x4)] [.int x3] Q)) : wp SC 68 (d + 1) s 12 [(0, .ref a0), (1, .int x1), (2, .int x2), (3, .int x3), (4, .int x4)] [] h Q := by
  refine wp_run 2 (pc' := 14) (lv' := [(0, .ref a0), (1, .int x1), (2, .int x2), (3, .int x3), (4, .int x4)]) (st' := [.ref a0, .int x3]) rfl ?_
  obtain ⟨w2, e2a, e2b⟩ := e2
  refine wp_gf ⟨rfl, rfl⟩ rfl e2a e2b ?_
  refine wp_run 1 (pc' := 19) (lv' := [(0, .ref a0), (1, .int x1), (2, .int x2), (3, .int x3), (4, .int x4)]) (st' := [.int x4, .ref ae1, .int x3]) rfl ?_
  obtain ⟨w4, i4, e4a, e4x, e4i, e4v⟩ := e4
  refine wp_aal ⟨rfl, rfl⟩ e4a ⟨by decide, by decide⟩ e4x e4i e4v ?_
  refine wp_run 2 (pc' := 22) (lv' := [(0, .ref a0), (1, .int x1), (2, .int x2), (3, .int x3), (4, .int x4)]) (st' := [.int x2, .int x1, .ref ae3, .int x3]) rfl ?_
  have eA : lv_args 0 (.ref ae3 :: [.int x2, .int x1].reverse) = [(0, .ref ae3), (1, .int x1), (2, .int x2)] := by simp [lv_args, vc_i, vc_l, vc_r, vc_n, vc_a]
  refine wp_callV (ar := [.int x2, .int x1]) (rest := [.int x3]) (s1 := 0) (s2 := s) (d' := d) ⟨rfl, rfl⟩ rfl (Or.inl rfl)  (by simp [re_cat, vc_i, vc_l, vc_r, vc_n, vc_a]) (by rw [show re_cat (.ref ae3 :: [.int x2, .int x1].reverse) = 3 from by simp [re_cat, vc_i, vc_l, vc_r, vc_n, vc_a]]; decide) (by decide) rfl eg ec rfl (Nat.le_of_eq (Nat.zero_add s)) ?_
  rw [eA]
  exact wp_mono K (fun k v h' z => wp_ret_weak (re_sb_at rfl (re_sb_at rfl (re_sb_at rfl (re_sb_at rfl (re_sb_nil _))))) z)
theorem B68_25 {SC : List Value} {d s : Nat} {h : re_H} {Q : Nat → Value → re_H → Prop} {a0 : Nat} {x1 : Int32} {x2 : Int32} {x4 : Int32} {xs0 : Int32} {xs1 : Int32}
    (K : wp SC 68 d s 5 [(0, .ref a0), (1, .int x1), (2, .int x2), (3, .int (xs1 + xs0)), (4, .int (x4 + (i32 1)))] [] h Q) : wp SC 68 d s 25 [(0, .ref a0), (1, .int x1), (2, .int x2), (4, .int x4)] [.int xs0, .int xs1] h Q := by
  refine wp_run 4 (pc' := 5) (lv' := [(4, .int (x4 + (i32 1))), (3, .int (xs1 + xs0)), (0, .ref a0), (1, .int x1), (2, .int x2)]) (st' := []) rfl ?_
  exact wp_weak (re_sb_at rfl (re_sb_at rfl (re_sb_at rfl (re_sb_at rfl (re_sb_at rfl (re_sb_nil _)))))) K
theorem B68_33 {SC : List Value} {d s : Nat} {h : re_H} {Q : Nat → Value → re_H → Prop} {x3 : Int32}
    (K : Q 1 (.int x3) h) : wp SC 68 d s 33 [(3, .int x3)] [] h Q := by
  refine wp_run 1 (pc' := 34) (lv' := [(3, .int x3)]) (st' := [.int x3]) rfl ?_
  exact wp_reti ⟨rfl, rfl⟩ rfl K
theorem B69_0 {SC : List Value} {d s : Nat} {h : re_H} {Q : Nat → Value → re_H → Prop} {a0 : Nat} {a1 : Nat}
    (K : wp SC 69 d s 2 [(0, .ref a0), (1, .ref a1), (2, .int (i32 0))] [] h Q) : wp SC 69 d s 0 [(0, .ref a0), (1, .ref a1)] [] h Q := by
  refine wp_run 2 (pc' := 2) (lv' := [(2, .int (i32 0)), (0, .ref a0), (1, .ref a1)]) (st' := []) rfl ?_
  exact wp_weak (re_sb_at rfl (re_sb_at rfl (re_sb_at rfl (re_sb_nil _)))) K
theorem B69_2 {SC : List Value} {d s : Nat} {h : re_H} {Q : Nat → Value → re_H → Prop} {a0 : Nat} {a1 : Nat} {x2 : Int32}
    (K1 : ¬ x2 < (i32 12) → wp SC 69 d s 20 [] [] h Q) (K2 : x2 < (i32 12) → wp SC 69 d s 8 [(0, .ref a0), (1, .ref a1), (2, .int x2)] [] h Q) : wp SC 69 d s 2 [(0, .ref a0), (1, .ref a1), (2, .int x2)] [] h Q := by
  refine wp_run 1 (pc' := 3) (lv' := [(0, .ref a0), (1, .ref a1), (2, .int x2)]) (st' := [.int x2]) rfl ?_
  refine wp_bi (x := (i32 12)) ⟨rfl, rfl⟩ (by decide) ?_
  exact wp_cmp ⟨rfl, rfl⟩ rfl (fun hc => wp_weak (re_sb_nil _) (K1 (ic1_ge hc))) (fun hc => wp_weak (re_sb_at rfl (re_sb_at rfl (re_sb_at rfl (re_sb_nil _)))) (K2 (ic0_ge hc)))
theorem B69_8 {SC : List Value} {d s : Nat} {h : re_H} {Q : Nat → Value → re_H → Prop} {a0 : Nat} {a1 : Nat} {x2 : Int32}
    {c : Nat} {w : List Value} (eg : re_hg h a0 = some (c, w)) (ec : c = 1) (K : wp SC 70 d 0 0 [(0, .ref a0), (1, .ref a1), (2, .int x2)] [] h (wp_ret SC 69 (d + 1) s 14 [(0, .ref a0), (1, .ref a1), (2, .int x2)] [] Q)) : wp SC 69 (d + 1) s 8 [(0, .ref a0), (1, .ref a1), (2, .int x2)] [] h Q := by
  refine wp_run 3 (pc' := 11) (lv' := [(0, .ref a0), (1, .ref a1), (2, .int x2)]) (st' := [.int x2, .ref a1, .ref a0]) rfl ?_
  have eA : lv_args 0 (.ref a0 :: [.int x2, .ref a1].reverse) = [(0, .ref a0), (1, .ref a1), (2, .int x2)] := by simp [lv_args, vc_i, vc_l, vc_r, vc_n, vc_a]
  refine wp_callV (ar := [.int x2, .ref a1]) (rest := []) (s1 := 0) (s2 := s) (d' := d) ⟨rfl, rfl⟩ rfl (Or.inl rfl)  (by simp [re_cat, vc_i, vc_l, vc_r, vc_n, vc_a]) (by rw [show re_cat (.ref a0 :: [.int x2, .ref a1].reverse) = 3 from by simp [re_cat, vc_i, vc_l, vc_r, vc_n, vc_a]]; decide) (by decide) rfl eg ec rfl (Nat.le_of_eq (Nat.zero_add s)) ?_
  rw [eA]
  exact wp_mono K (fun k v h' z => wp_ret_weak (re_sb_at rfl (re_sb_at rfl (re_sb_at rfl (re_sb_nil _)))) z)
theorem B69_14 {SC : List Value} {d s : Nat} {h : re_H} {Q : Nat → Value → re_H → Prop} {a0 : Nat} {a1 : Nat} {x2 : Int32}
    (K : wp SC 69 d s 2 [(0, .ref a0), (1, .ref a1), (2, .int (x2 + (i32 1)))] [] h Q) : wp SC 69 d s 14 [(0, .ref a0), (1, .ref a1), (2, .int x2)] [] h Q := by
  refine wp_run 2 (pc' := 2) (lv' := [(2, .int (x2 + (i32 1))), (0, .ref a0), (1, .ref a1)]) (st' := []) rfl ?_
  exact wp_weak (re_sb_at rfl (re_sb_at rfl (re_sb_at rfl (re_sb_nil _)))) K
theorem B69_20 {SC : List Value} {d s : Nat} {h : re_H} {Q : Nat → Value → re_H → Prop} 
    (K : Q 0 .null h) : wp SC 69 d s 20 [] [] h Q := by
  exact wp_retv ⟨rfl, rfl⟩ rfl K
theorem B70_0 {SC : List Value} {d s : Nat} {h : re_H} {Q : Nat → Value → re_H → Prop} {a0 : Nat} {a1 : Nat} {x2 : Int32}
    {ae1 : Nat} (e2 : nb_fd h a0 1 0 (.ref ae1)) {ae3 : Nat} (e4 : nb_fd h a1 1 0 (.ref ae3)) {xe5 : Int32} (e6 : nb_ar h ae3 102 x2 (.int xe5)) {w : List Value} {i : Nat} (e : re_hg h ae1 = some (102, w)) (hx : x2 = i32 i) (hi : i < 2147483648) (hl : i < w.length) (K : wp SC 70 d s 12 [(0, .ref a0), (1, .ref a1), (2, .int x2)] [] (re_hw h ae1 (102, w.set i (.int (vp_nar .boolean xe5)))) Q) : wp SC 70 d s 0 [(0, .ref a0), (1, .ref a1), (2, .int x2)] [] h Q := by
  refine wp_run 1 (pc' := 1) (lv' := [(0, .ref a0), (1, .ref a1), (2, .int x2)]) (st' := [.ref a0]) rfl ?_
  obtain ⟨w2, e2a, e2b⟩ := e2
  refine wp_gf ⟨rfl, rfl⟩ rfl e2a e2b ?_
  refine wp_run 2 (pc' := 6) (lv' := [(0, .ref a0), (1, .ref a1), (2, .int x2)]) (st' := [.ref a1, .int x2, .ref ae1]) rfl ?_
  obtain ⟨w4, e4a, e4b⟩ := e4
  refine wp_gf ⟨rfl, rfl⟩ rfl e4a e4b ?_
  refine wp_run 1 (pc' := 10) (lv' := [(0, .ref a0), (1, .ref a1), (2, .int x2)]) (st' := [.int x2, .ref ae3, .int x2, .ref ae1]) rfl ?_
  obtain ⟨w6, i6, e6a, e6x, e6i, e6v⟩ := e6
  refine wp_bal ⟨rfl, rfl⟩ e6a rfl e6x e6i e6v ?_
  exact wp_bas ⟨rfl, rfl⟩ e rfl hx hi hl (wp_weak (re_sb_at rfl (re_sb_at rfl (re_sb_at rfl (re_sb_nil _)))) K)
theorem B70_12 {SC : List Value} {d s : Nat} {h : re_H} {Q : Nat → Value → re_H → Prop} {a0 : Nat} {a1 : Nat} {x2 : Int32}
    {ae1 : Nat} (e2 : nb_fd h a0 1 1 (.ref ae1)) {ae3 : Nat} (e4 : nb_ar h ae1 104 x2 (.ref ae3)) {ae5 : Nat} (e6 : nb_fd h a1 1 1 (.ref ae5)) {ae7 : Nat} (e8 : nb_ar h ae5 104 x2 (.ref ae7)) {c : Nat} {w : List Value} (eg : re_hg h ae3 = some (c, w)) (ec : c = 2) (K : wp SC 134 d 0 0 [(0, .ref ae3), (1, .ref ae7)] [] h (wp_ret SC 70 (d + 1) s 27 [] [] Q)) : wp SC 70 (d + 1) s 12 [(0, .ref a0), (1, .ref a1), (2, .int x2)] [] h Q := by
  refine wp_run 1 (pc' := 13) (lv' := [(0, .ref a0), (1, .ref a1), (2, .int x2)]) (st' := [.ref a0]) rfl ?_
  obtain ⟨w2, e2a, e2b⟩ := e2
  refine wp_gf ⟨rfl, rfl⟩ rfl e2a e2b ?_
  refine wp_run 1 (pc' := 17) (lv' := [(0, .ref a0), (1, .ref a1), (2, .int x2)]) (st' := [.int x2, .ref ae1]) rfl ?_
  obtain ⟨w4, i4, e4a, e4x, e4i, e4v⟩ := e4
  refine wp_aal ⟨rfl, rfl⟩ e4a ⟨by decide, by decide⟩ e4x e4i e4v ?_
  refine wp_run 1 (pc' := 19) (lv' := [(0, .ref a0), (1, .ref a1), (2, .int x2)]) (st' := [.ref a1, .ref ae3]) rfl ?_
  obtain ⟨w6, e6a, e6b⟩ := e6
  refine wp_gf ⟨rfl, rfl⟩ rfl e6a e6b ?_
  refine wp_run 1 (pc' := 23) (lv' := [(0, .ref a0), (1, .ref a1), (2, .int x2)]) (st' := [.int x2, .ref ae5, .ref ae3]) rfl ?_
  obtain ⟨w8, i8, e8a, e8x, e8i, e8v⟩ := e8
  refine wp_aal ⟨rfl, rfl⟩ e8a ⟨by decide, by decide⟩ e8x e8i e8v ?_
  have eA : lv_args 0 (.ref ae3 :: [.ref ae7].reverse) = [(0, .ref ae3), (1, .ref ae7)] := by simp [lv_args, vc_i, vc_l, vc_r, vc_n, vc_a]
  refine wp_callV (ar := [.ref ae7]) (rest := []) (s1 := 0) (s2 := s) (d' := d) ⟨rfl, rfl⟩ rfl (Or.inl rfl)  (by simp [re_cat, vc_i, vc_l, vc_r, vc_n, vc_a]) (by rw [show re_cat (.ref ae3 :: [.ref ae7].reverse) = 2 from by simp [re_cat, vc_i, vc_l, vc_r, vc_n, vc_a]]; decide) (by decide) rfl eg ec rfl (Nat.le_of_eq (Nat.zero_add s)) ?_
  rw [eA]
  exact wp_mono K (fun k v h' z => wp_ret_weak (re_sb_nil _) z)
theorem B70_27 {SC : List Value} {d s : Nat} {h : re_H} {Q : Nat → Value → re_H → Prop} 
    (K : Q 0 .null h) : wp SC 70 d s 27 [] [] h Q := by
  exact wp_retv ⟨rfl, rfl⟩ rfl K
theorem B71_0 {SC : List Value} {d s : Nat} {h : re_H} {Q : Nat → Value → re_H → Prop} {a0 : Nat} {a1 : Nat} {x2 : Int32}
    {ae1 : Nat} (e2 : nb_fd h a0 1 0 (.ref ae1)) {xe3 : Int32} (e4 : nb_ar h ae1 102 x2 (.int xe3)) {ae5 : Nat} (e6 : nb_fd h a1 1 0 (.ref ae5)) {xe7 : Int32} (e8 : nb_ar h ae5 102 x2 (.int xe7)) (K1 : ¬ xe3 = xe7 → wp SC 71 d s 37 [] [] h Q) (K2 : xe3 = xe7 → wp SC 71 d s 15 [(0, .ref a0), (1, .ref a1), (2, .int x2)] [] h Q) : wp SC 71 d s 0 [(0, .ref a0), (1, .ref a1), (2, .int x2)] [] h Q := by
  refine wp_run 1 (pc' := 1) (lv' := [(0, .ref a0), (1, .ref a1), (2, .int x2)]) (st' := [.ref a0]) rfl ?_
  obtain ⟨w2, e2a, e2b⟩ := e2
  refine wp_gf ⟨rfl, rfl⟩ rfl e2a e2b ?_
  refine wp_run 1 (pc' := 5) (lv' := [(0, .ref a0), (1, .ref a1), (2, .int x2)]) (st' := [.int x2, .ref ae1]) rfl ?_
  obtain ⟨w4, i4, e4a, e4x, e4i, e4v⟩ := e4
  refine wp_bal ⟨rfl, rfl⟩ e4a rfl e4x e4i e4v ?_
  refine wp_run 1 (pc' := 7) (lv' := [(0, .ref a0), (1, .ref a1), (2, .int x2)]) (st' := [.ref a1, .int xe3]) rfl ?_
  obtain ⟨w6, e6a, e6b⟩ := e6
  refine wp_gf ⟨rfl, rfl⟩ rfl e6a e6b ?_
  refine wp_run 1 (pc' := 11) (lv' := [(0, .ref a0), (1, .ref a1), (2, .int x2)]) (st' := [.int x2, .ref ae5, .int xe3]) rfl ?_
  obtain ⟨w8, i8, e8a, e8x, e8i, e8v⟩ := e8
  refine wp_bal ⟨rfl, rfl⟩ e8a rfl e8x e8i e8v ?_
  exact wp_cmp ⟨rfl, rfl⟩ rfl (fun hc => wp_weak (re_sb_nil _) (K1 (ic1_ne hc))) (fun hc => wp_weak (re_sb_at rfl (re_sb_at rfl (re_sb_at rfl (re_sb_nil _)))) (K2 (ic0_ne hc)))
theorem B71_15 {SC : List Value} {d s : Nat} {h : re_H} {Q : Nat → Value → re_H → Prop} {a0 : Nat} {a1 : Nat} {x2 : Int32}
    {ae1 : Nat} (e2 : nb_fd h a0 1 1 (.ref ae1)) {ae3 : Nat} (e4 : nb_ar h ae1 104 x2 (.ref ae3)) {ae5 : Nat} (e6 : nb_fd h a1 1 1 (.ref ae5)) {ae7 : Nat} (e8 : nb_ar h ae5 104 x2 (.ref ae7)) {c : Nat} {w : List Value} (eg : re_hg h ae3 = some (c, w)) (ec : c = 2) (K : wp SC 131 d 0 0 [(0, .ref ae3), (1, .ref ae7)] [] h (wp_ret SC 71 (d + 1) s 30 [] [] Q)) : wp SC 71 (d + 1) s 15 [(0, .ref a0), (1, .ref a1), (2, .int x2)] [] h Q := by
  refine wp_run 1 (pc' := 16) (lv' := [(0, .ref a0), (1, .ref a1), (2, .int x2)]) (st' := [.ref a0]) rfl ?_
  obtain ⟨w2, e2a, e2b⟩ := e2
  refine wp_gf ⟨rfl, rfl⟩ rfl e2a e2b ?_
  refine wp_run 1 (pc' := 20) (lv' := [(0, .ref a0), (1, .ref a1), (2, .int x2)]) (st' := [.int x2, .ref ae1]) rfl ?_
  obtain ⟨w4, i4, e4a, e4x, e4i, e4v⟩ := e4
  refine wp_aal ⟨rfl, rfl⟩ e4a ⟨by decide, by decide⟩ e4x e4i e4v ?_
  refine wp_run 1 (pc' := 22) (lv' := [(0, .ref a0), (1, .ref a1), (2, .int x2)]) (st' := [.ref a1, .ref ae3]) rfl ?_
  obtain ⟨w6, e6a, e6b⟩ := e6
  refine wp_gf ⟨rfl, rfl⟩ rfl e6a e6b ?_
  refine wp_run 1 (pc' := 26) (lv' := [(0, .ref a0), (1, .ref a1), (2, .int x2)]) (st' := [.int x2, .ref ae5, .ref ae3]) rfl ?_
  obtain ⟨w8, i8, e8a, e8x, e8i, e8v⟩ := e8
  refine wp_aal ⟨rfl, rfl⟩ e8a ⟨by decide, by decide⟩ e8x e8i e8v ?_
  have eA : lv_args 0 (.ref ae3 :: [.ref ae7].reverse) = [(0, .ref ae3), (1, .ref ae7)] := by simp [lv_args, vc_i, vc_l, vc_r, vc_n, vc_a]
  refine wp_callV (ar := [.ref ae7]) (rest := []) (s1 := 0) (s2 := s) (d' := d) ⟨rfl, rfl⟩ rfl (Or.inl rfl)  (by simp [re_cat, vc_i, vc_l, vc_r, vc_n, vc_a]) (by rw [show re_cat (.ref ae3 :: [.ref ae7].reverse) = 2 from by simp [re_cat, vc_i, vc_l, vc_r, vc_n, vc_a]]; decide) (by decide) rfl eg ec rfl (Nat.le_of_eq (Nat.zero_add s)) ?_
  rw [eA]
  exact wp_mono K (fun k v h' z => wp_ret_weak (re_sb_nil _) z)
theorem B71_30 {SC : List Value} {d s : Nat} {h : re_H} {Q : Nat → Value → re_H → Prop} {xs0 : Int32}
    (K1 : xs0 = 0 → wp SC 71 d s 37 [] [] h Q) (K2 : ¬ xs0 = 0 → wp SC 71 d s 33 [] [] h Q) : wp SC 71 d s 30 [] [.int xs0] h Q := by
  exact wp_if ⟨rfl, rfl⟩ rfl (fun hc => wp_weak (re_sb_nil _) (K1 (ic1_eq hc))) (fun hc => wp_weak (re_sb_nil _) (K2 (ic0_eq hc)))
theorem B71_33 {SC : List Value} {d s : Nat} {h : re_H} {Q : Nat → Value → re_H → Prop} 
    (K : wp SC 71 d s 38 [] [.int (i32 1)] h Q) : wp SC 71 d s 33 [] [] h Q := by
  refine wp_run 2 (pc' := 38) (lv' := []) (st' := [.int (i32 1)]) rfl ?_
  exact wp_weak (re_sb_nil _) K
theorem B71_37 {SC : List Value} {d s : Nat} {h : re_H} {Q : Nat → Value → re_H → Prop} 
    (K : wp SC 71 d s 38 [] [.int (i32 0)] h Q) : wp SC 71 d s 37 [] [] h Q := by
  refine wp_run 1 (pc' := 38) (lv' := []) (st' := [.int (i32 0)]) rfl ?_
  exact wp_weak (re_sb_nil _) K
theorem B71_38 {SC : List Value} {d s : Nat} {h : re_H} {Q : Nat → Value → re_H → Prop} {xs0 : Int32}
    (hz : xs0 = 0 ∨ xs0 = 1) (K : Q 1 (.int xs0) h) : wp SC 71 d s 38 [] [.int xs0] h Q := by
  exact wp_retz ⟨rfl, rfl⟩ rfl hz K
