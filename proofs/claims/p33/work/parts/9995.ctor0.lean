/-! Cellbrook's constructor, block by block. -/
theorem wp_new2 {SC : List Value} {y d s s' pc : Nat} {lv : List (Nat × Value)} {st : List Value} {h : re_H} {Q : Nat → Value → re_H → Prop} {idx ci : Nat} {vs : List Value} (hf : ft y pc (.new idx)) (hn : re_nw rG y idx = some (ci, vs)) (hc : ci < 100) (hs : vs.length + 2 * s' ≤ 11 + 2 * s) (hs' : s' ≤ s) (K : wp SC y d s' (pc + 3) lv (.ref h.1 :: st) (re_hq h (ci, vs)) Q) : wp SC y d s pc lv st h Q :=
  wp_mk (s' := s') (pc' := pc + 3) (st' := .ref h.1 :: st) (c := (ci, vs)) hf rfl rfl rfl (by simp only [re_mk, hn, hc, if_true]) (by show vs.length + _ ≤ _; omega) hs' K
set_option maxRecDepth 20000 in
theorem L0_0 {SC : List Value} {d s : Nat} {h : re_H} {Q : Nat → Value → re_H → Prop} {a0 : Nat}
    (K : wp SC 0 d s 4 [(0, .ref a0)] [] h Q) : wp SC 0 d s 0 [(0, .ref a0)] [] h Q := by
  refine wp_run 1 (pc' := 1) (lv' := [(0, .ref a0)]) (st' := [.ref a0]) rfl ?_
  refine wp_obj ⟨rfl, rfl⟩ rfl (by simp [re_cat, vc_i, vc_l, vc_r, vc_n, vc_a]) ?_
  exact wp_weak (re_sb_at rfl (re_sb_nil _)) K
set_option maxRecDepth 20000 in
theorem L0_4 {SC : List Value} {d s : Nat} {h : re_H} {Q : Nat → Value → re_H → Prop} {a0 : Nat}
    {s' i : Nat} (hx : (i32 20) = i32 i) (hn : i * 8 ≤ 536870912) (hs : i + 2 * s' ≤ 11 + 2 * s) (hs' : s' ≤ s) (K : wp SC 0 d s' 10 [(0, .ref a0)] [.ref h.1, .ref a0] (re_hq h (103, List.replicate i .null)) Q) : wp SC 0 d s 4 [(0, .ref a0)] [] h Q := by
  refine wp_run 1 (pc' := 5) (lv' := [(0, .ref a0)]) (st' := [.ref a0]) rfl ?_
  refine wp_bi (x := (i32 20)) ⟨rfl, rfl⟩ (by decide) ?_
  exact wp_ana ⟨rfl, rfl⟩ rfl hx hn hs hs' (wp_weak (re_sb_at rfl (re_sb_nil _)) K)
set_option maxRecDepth 20000 in
theorem L0_10 {SC : List Value} {d s : Nat} {h : re_H} {Q : Nat → Value → re_H → Prop} {a0 : Nat} {as0 : Nat} {as1 : Nat}
    {w : List Value} (e : re_hg h as1 = some (0, w)) (hk : 0 < w.length) (K : wp SC 0 d s 13 [(0, .ref a0)] [] (re_hw h as1 (0, w.set 0 (.ref as0))) Q) : wp SC 0 d s 10 [(0, .ref a0)] [.ref as0, .ref as1] h Q := by
  exact wp_pf ⟨rfl, rfl⟩ rfl (Or.inr ⟨rfl, rfl⟩) e hk (fit_a (Or.inr ⟨_, rfl⟩)) (wp_weak (re_sb_at rfl (re_sb_nil _)) K)
set_option maxRecDepth 20000 in
theorem L0_13 {SC : List Value} {d s : Nat} {h : re_H} {Q : Nat → Value → re_H → Prop} {a0 : Nat}
    (K : wp SC 0 d s 17 [(0, .ref a0)] [.ref h.1, .ref a0] (re_hq h (1, [.null, .null])) Q) : wp SC 0 d s 13 [(0, .ref a0)] [] h Q := by
  refine wp_run 1 (pc' := 14) (lv' := [(0, .ref a0)]) (st' := [.ref a0]) rfl ?_
  exact wp_new (vs := [.null, .null]) ⟨rfl, rfl⟩ rfl (by decide) (by decide) (wp_weak (re_sb_at rfl (re_sb_nil _)) K)
set_option maxRecDepth 20000 in
theorem L0_17 {SC : List Value} {d s : Nat} {h : re_H} {Q : Nat → Value → re_H → Prop} {a0 : Nat} {as0 : Nat} {as1 : Nat}
    {c : Nat} {w : List Value} (eg : re_hg h as0 = some (c, w)) (ec : c = 1) {s1 s2 : Nat} (hs9 : s1 + s2 ≤ s) (K : wp SC 64 d s1 0 [(0, .ref as0)] [] h (wp_ret SC 0 (d + 1) s2 21 [(0, .ref a0)] [.ref as0, .ref as1] Q)) : wp SC 0 (d + 1) s 17 [(0, .ref a0)] [.ref as0, .ref as1] h Q := by
  refine wp_run 1 (pc' := 18) (lv' := [(0, .ref a0)]) (st' := [.ref as0, .ref as0, .ref as1]) rfl ?_
  have eA : lv_args 0 (.ref as0 :: [].reverse) = [(0, .ref as0)] := by simp [lv_args, vc_i, vc_l, vc_r, vc_n, vc_a]
  refine wp_callI (ar := []) (rest := [.ref as0, .ref as1]) (s1 := s1) (s2 := s2) (d' := d) ⟨rfl, rfl⟩ rfl (Or.inl rfl)  (by simp [re_cat, vc_i, vc_l, vc_r, vc_n, vc_a]) (by rw [show re_cat (.ref as0 :: [].reverse) = 1 from by simp [re_cat, vc_i, vc_l, vc_r, vc_n, vc_a]]; decide) (by decide) rfl eg ec rfl hs9 ?_
  rw [eA]
  exact wp_mono K (fun k v h' z => wp_ret_weak (re_sb_at rfl (re_sb_nil _)) z)
set_option maxRecDepth 20000 in
theorem L0_21 {SC : List Value} {d s : Nat} {h : re_H} {Q : Nat → Value → re_H → Prop} {a0 : Nat} {as0 : Nat} {as1 : Nat}
    {w : List Value} (e : re_hg h as1 = some (0, w)) (hk : 2 < w.length) (K : wp SC 0 d s 24 [(0, .ref a0)] [] (re_hw h as1 (0, w.set 2 (.ref as0))) Q) : wp SC 0 d s 21 [(0, .ref a0)] [.ref as0, .ref as1] h Q := by
  exact wp_pf ⟨rfl, rfl⟩ rfl (Or.inr ⟨rfl, rfl⟩) e hk (fit_o (Or.inr ⟨_, rfl⟩)) (wp_weak (re_sb_at rfl (re_sb_nil _)) K)
set_option maxRecDepth 20000 in
theorem L0_24 {SC : List Value} {d s : Nat} {h : re_H} {Q : Nat → Value → re_H → Prop} {a0 : Nat}
    (K : wp SC 0 d s 28 [(0, .ref a0)] [.ref h.1, .ref a0] (re_hq h (3, [.null, .null, .null, .null, .null, .null, .null])) Q) : wp SC 0 d s 24 [(0, .ref a0)] [] h Q := by
  refine wp_run 1 (pc' := 25) (lv' := [(0, .ref a0)]) (st' := [.ref a0]) rfl ?_
  exact wp_new (vs := [.null, .null, .null, .null, .null, .null, .null]) ⟨rfl, rfl⟩ rfl (by decide) (by decide) (wp_weak (re_sb_at rfl (re_sb_nil _)) K)
set_option maxRecDepth 20000 in
theorem L0_28 {SC : List Value} {d s : Nat} {h : re_H} {Q : Nat → Value → re_H → Prop} {a0 : Nat} {as0 : Nat} {as1 : Nat}
    {ae1 : Nat} (e2 : nb_fd h a0 0 2 (.ref ae1)) {c : Nat} {w : List Value} (eg : re_hg h as0 = some (c, w)) (ec : c = 3) {s1 s2 : Nat} (hs9 : s1 + s2 ≤ s) (K : wp SC 192 d s1 0 [(0, .ref as0), (1, .ref ae1)] [] h (wp_ret SC 0 (d + 1) s2 36 [(0, .ref a0)] [.ref as0, .ref as1] Q)) : wp SC 0 (d + 1) s 28 [(0, .ref a0)] [.ref as0, .ref as1] h Q := by
  refine wp_run 2 (pc' := 30) (lv' := [(0, .ref a0)]) (st' := [.ref a0, .ref as0, .ref as0, .ref as1]) rfl ?_
  obtain ⟨w2, e2a, e2b⟩ := e2
  refine wp_gf ⟨rfl, rfl⟩ rfl e2a e2b ?_
  have eA : lv_args 0 (.ref as0 :: [.ref ae1].reverse) = [(0, .ref as0), (1, .ref ae1)] := by simp [lv_args, vc_i, vc_l, vc_r, vc_n, vc_a]
  refine wp_callI (ar := [.ref ae1]) (rest := [.ref as0, .ref as1]) (s1 := s1) (s2 := s2) (d' := d) ⟨rfl, rfl⟩ rfl (Or.inl rfl)  (by simp [re_cat, vc_i, vc_l, vc_r, vc_n, vc_a]) (by rw [show re_cat (.ref as0 :: [.ref ae1].reverse) = 2 from by simp [re_cat, vc_i, vc_l, vc_r, vc_n, vc_a]]; decide) (by decide) rfl eg ec rfl hs9 ?_
  rw [eA]
  exact wp_mono K (fun k v h' z => wp_ret_weak (re_sb_at rfl (re_sb_nil _)) z)
set_option maxRecDepth 20000 in
theorem L0_36 {SC : List Value} {d s : Nat} {h : re_H} {Q : Nat → Value → re_H → Prop} {a0 : Nat} {as0 : Nat} {as1 : Nat}
    {w : List Value} (e : re_hg h as1 = some (0, w)) (hk : 4 < w.length) (K : wp SC 0 d s 39 [(0, .ref a0)] [] (re_hw h as1 (0, w.set 4 (.ref as0))) Q) : wp SC 0 d s 36 [(0, .ref a0)] [.ref as0, .ref as1] h Q := by
  exact wp_pf ⟨rfl, rfl⟩ rfl (Or.inr ⟨rfl, rfl⟩) e hk (fit_o (Or.inr ⟨_, rfl⟩)) (wp_weak (re_sb_at rfl (re_sb_nil _)) K)
set_option maxRecDepth 20000 in
theorem L0_39 {SC : List Value} {d s : Nat} {h : re_H} {Q : Nat → Value → re_H → Prop} {a0 : Nat}
    (K : wp SC 0 d s 43 [(0, .ref a0)] [.ref h.1, .ref a0] (re_hq h (4, [.null, .int 0])) Q) : wp SC 0 d s 39 [(0, .ref a0)] [] h Q := by
  refine wp_run 1 (pc' := 40) (lv' := [(0, .ref a0)]) (st' := [.ref a0]) rfl ?_
  exact wp_new (vs := [.null, .int 0]) ⟨rfl, rfl⟩ rfl (by decide) (by decide) (wp_weak (re_sb_at rfl (re_sb_nil _)) K)
set_option maxRecDepth 20000 in
theorem L0_43 {SC : List Value} {d s : Nat} {h : re_H} {Q : Nat → Value → re_H → Prop} {a0 : Nat} {as0 : Nat} {as1 : Nat}
    {c : Nat} {w : List Value} (eg : re_hg h as0 = some (c, w)) (ec : c = 4) {s1 s2 : Nat} (hs9 : s1 + s2 ≤ s) (K : wp SC 256 d s1 0 [(0, .ref as0)] [] h (wp_ret SC 0 (d + 1) s2 47 [(0, .ref a0)] [.ref as0, .ref as1] Q)) : wp SC 0 (d + 1) s 43 [(0, .ref a0)] [.ref as0, .ref as1] h Q := by
  refine wp_run 1 (pc' := 44) (lv' := [(0, .ref a0)]) (st' := [.ref as0, .ref as0, .ref as1]) rfl ?_
  have eA : lv_args 0 (.ref as0 :: [].reverse) = [(0, .ref as0)] := by simp [lv_args, vc_i, vc_l, vc_r, vc_n, vc_a]
  refine wp_callI (ar := []) (rest := [.ref as0, .ref as1]) (s1 := s1) (s2 := s2) (d' := d) ⟨rfl, rfl⟩ rfl (Or.inr rfl)  (by simp [re_cat, vc_i, vc_l, vc_r, vc_n, vc_a]) (by rw [show re_cat (.ref as0 :: [].reverse) = 1 from by simp [re_cat, vc_i, vc_l, vc_r, vc_n, vc_a]]; decide) (by decide) rfl eg ec rfl hs9 ?_
  rw [eA]
  exact wp_mono K (fun k v h' z => wp_ret_weak (re_sb_at rfl (re_sb_nil _)) z)
set_option maxRecDepth 20000 in
theorem L0_47 {SC : List Value} {d s : Nat} {h : re_H} {Q : Nat → Value → re_H → Prop} {a0 : Nat} {as0 : Nat} {as1 : Nat}
    {w : List Value} (e : re_hg h as1 = some (0, w)) (hk : 5 < w.length) (K : wp SC 0 d s 50 [(0, .ref a0)] [] (re_hw h as1 (0, w.set 5 (.ref as0))) Q) : wp SC 0 d s 47 [(0, .ref a0)] [.ref as0, .ref as1] h Q := by
  exact wp_pf ⟨rfl, rfl⟩ rfl (Or.inr ⟨rfl, rfl⟩) e hk (fit_o (Or.inr ⟨_, rfl⟩)) (wp_weak (re_sb_at rfl (re_sb_nil _)) K)
set_option maxRecDepth 20000 in
theorem L0_50 {SC : List Value} {d s : Nat} {h : re_H} {Q : Nat → Value → re_H → Prop} {a0 : Nat}
    {s' i : Nat} (hx : (i32 24) = i32 i) (hn : i * 8 ≤ 536870912) (hs : i + 2 * s' ≤ 11 + 2 * s) (hs' : s' ≤ s) (K : wp SC 0 d s' 55 [(0, .ref a0)] [.ref h.1] (re_hq h (105, List.replicate i .null)) Q) : wp SC 0 d s 50 [(0, .ref a0)] [] h Q := by
  refine wp_bi (x := (i32 24)) ⟨rfl, rfl⟩ (by decide) ?_
  exact wp_ana ⟨rfl, rfl⟩ rfl hx hn hs hs' (wp_weak (re_sb_at rfl (re_sb_nil _)) K)
set_option maxRecDepth 20000 in
theorem L0_55 {SC : List Value} {d s : Nat} {h : re_H} {Q : Nat → Value → re_H → Prop} {a0 : Nat} {as0 : Nat}
    (K : wp SC 0 d s 58 [(0, .ref a0), (1, .ref as0), (2, .int (i32 0))] [] h Q) : wp SC 0 d s 55 [(0, .ref a0)] [.ref as0] h Q := by
  refine wp_run 3 (pc' := 58) (lv' := [(2, .int (i32 0)), (1, .ref as0), (0, .ref a0)]) (st' := []) rfl ?_
  exact wp_weak (re_sb_at rfl (re_sb_at rfl (re_sb_at rfl (re_sb_nil _)))) K
set_option maxRecDepth 20000 in
theorem L0_58 {SC : List Value} {d s : Nat} {h : re_H} {Q : Nat → Value → re_H → Prop} {a0 : Nat} {a1 : Nat} {x2 : Int32}
    {w1 : List Value} (e1 : re_hg h a1 = some (105, w1)) (K1 : ¬ x2 < (i32 w1.length) → wp SC 0 d s 80 [(0, .ref a0), (1, .ref a1)] [] h Q) (K2 : x2 < (i32 w1.length) → wp SC 0 d s 64 [(0, .ref a0), (1, .ref a1), (2, .int x2)] [] h Q) : wp SC 0 d s 58 [(0, .ref a0), (1, .ref a1), (2, .int x2)] [] h Q := by
  refine wp_run 2 (pc' := 60) (lv' := [(0, .ref a0), (1, .ref a1), (2, .int x2)]) (st' := [.ref a1, .int x2]) rfl ?_
  refine wp_alen ⟨rfl, rfl⟩ e1 ⟨by decide, by decide⟩ ?_
  exact wp_cmp ⟨rfl, rfl⟩ rfl (fun hc => wp_weak (re_sb_at rfl (re_sb_at rfl (re_sb_nil _))) (K1 (ic1_ge hc))) (fun hc => wp_weak (re_sb_at rfl (re_sb_at rfl (re_sb_at rfl (re_sb_nil _)))) (K2 (ic0_ge hc)))
set_option maxRecDepth 20000 in
theorem L0_64 {SC : List Value} {d s : Nat} {h : re_H} {Q : Nat → Value → re_H → Prop} {a0 : Nat} {a1 : Nat} {x2 : Int32}
    (K : wp SC 0 d s 69 [(0, .ref a0), (1, .ref a1), (2, .int x2)] [.ref h.1, .int x2, .ref a1] (re_hq h (5, [.int 0, .int 0, .int 0, .null, .null, .null, .null, .null, .int 0, .null, .null])) Q) : wp SC 0 d s 64 [(0, .ref a0), (1, .ref a1), (2, .int x2)] [] h Q := by
  refine wp_run 2 (pc' := 66) (lv' := [(0, .ref a0), (1, .ref a1), (2, .int x2)]) (st' := [.int x2, .ref a1]) rfl ?_
  exact wp_new (vs := [.int 0, .int 0, .int 0, .null, .null, .null, .null, .null, .int 0, .null, .null]) ⟨rfl, rfl⟩ rfl (by decide) (by decide) (wp_weak (re_sb_at rfl (re_sb_at rfl (re_sb_at rfl (re_sb_nil _)))) K)
set_option maxRecDepth 20000 in
theorem L0_69 {SC : List Value} {d s : Nat} {h : re_H} {Q : Nat → Value → re_H → Prop} {a0 : Nat} {a1 : Nat} {x2 : Int32} {as0 : Nat} {xs1 : Int32} {as2 : Nat}
    {c : Nat} {w : List Value} (eg : re_hg h as0 = some (c, w)) (ec : c = 5) {s1 s2 : Nat} (hs9 : s1 + s2 ≤ s) (K : wp SC 320 d s1 0 [(0, .ref as0)] [] h (wp_ret SC 0 (d + 1) s2 73 [(0, .ref a0), (1, .ref a1), (2, .int x2)] [.ref as0, .int xs1, .ref as2] Q)) : wp SC 0 (d + 1) s 69 [(0, .ref a0), (1, .ref a1), (2, .int x2)] [.ref as0, .int xs1, .ref as2] h Q := by
  refine wp_run 1 (pc' := 70) (lv' := [(0, .ref a0), (1, .ref a1), (2, .int x2)]) (st' := [.ref as0, .ref as0, .int xs1, .ref as2]) rfl ?_
  have eA : lv_args 0 (.ref as0 :: [].reverse) = [(0, .ref as0)] := by simp [lv_args, vc_i, vc_l, vc_r, vc_n, vc_a]
  refine wp_callI (ar := []) (rest := [.ref as0, .int xs1, .ref as2]) (s1 := s1) (s2 := s2) (d' := d) ⟨rfl, rfl⟩ rfl (Or.inr rfl)  (by simp [re_cat, vc_i, vc_l, vc_r, vc_n, vc_a]) (by rw [show re_cat (.ref as0 :: [].reverse) = 1 from by simp [re_cat, vc_i, vc_l, vc_r, vc_n, vc_a]]; decide) (by decide) rfl eg ec rfl hs9 ?_
  rw [eA]
  exact wp_mono K (fun k v h' z => wp_ret_weak (re_sb_at rfl (re_sb_at rfl (re_sb_at rfl (re_sb_nil _)))) z)
set_option maxRecDepth 20000 in
theorem L0_73 {SC : List Value} {d s : Nat} {h : re_H} {Q : Nat → Value → re_H → Prop} {a0 : Nat} {a1 : Nat} {x2 : Int32} {as0 : Nat} {xs1 : Int32} {as2 : Nat}
    {w : List Value} {i : Nat} (e : re_hg h as2 = some (105, w)) (hx : xs1 = i32 i) (hi : i < 2147483648) (hl : i < w.length) (hv : Value.ref as0 = .null ∨ ∃ (b : Nat) (ws : List Value), Value.ref as0 = .ref b ∧ re_hg h b = some (5, ws)) (K : wp SC 0 d s 74 [(0, .ref a0), (1, .ref a1), (2, .int x2)] [] (re_hw h as2 (105, w.set i (.ref as0))) Q) : wp SC 0 d s 73 [(0, .ref a0), (1, .ref a1), (2, .int x2)] [.ref as0, .int xs1, .ref as2] h Q := by
  exact wp_aas ⟨rfl, rfl⟩ e ⟨by decide, by decide⟩ hx hi hl (hv.elim Or.inl (fun z => by obtain ⟨b, ws, z1, z2⟩ := z; exact Or.inr ⟨b, _, ws, z1, z2, by decide⟩)) (wp_weak (re_sb_at rfl (re_sb_at rfl (re_sb_at rfl (re_sb_nil _)))) K)
set_option maxRecDepth 20000 in
theorem L0_74 {SC : List Value} {d s : Nat} {h : re_H} {Q : Nat → Value → re_H → Prop} {a0 : Nat} {a1 : Nat} {x2 : Int32}
    (K : wp SC 0 d s 58 [(0, .ref a0), (1, .ref a1), (2, .int (x2 + (i32 1)))] [] h Q) : wp SC 0 d s 74 [(0, .ref a0), (1, .ref a1), (2, .int x2)] [] h Q := by
  refine wp_run 2 (pc' := 58) (lv' := [(2, .int (x2 + (i32 1))), (0, .ref a0), (1, .ref a1)]) (st' := []) rfl ?_
  exact wp_weak (re_sb_at rfl (re_sb_at rfl (re_sb_at rfl (re_sb_nil _)))) K
set_option maxRecDepth 20000 in
theorem L0_80 {SC : List Value} {d s : Nat} {h : re_H} {Q : Nat → Value → re_H → Prop} {a0 : Nat} {a1 : Nat}
    (K : wp SC 0 d s 83 [(0, .ref a0), (1, .ref a1)] [.ref h.1] (re_hq h (6, [.null, .null, .null, .null, .int 0, .int 0])) Q) : wp SC 0 d s 80 [(0, .ref a0), (1, .ref a1)] [] h Q := by
  exact wp_new (vs := [.null, .null, .null, .null, .int 0, .int 0]) ⟨rfl, rfl⟩ rfl (by decide) (by decide) (wp_weak (re_sb_at rfl (re_sb_at rfl (re_sb_nil _))) K)
set_option maxRecDepth 20000 in
theorem L0_83 {SC : List Value} {d s : Nat} {h : re_H} {Q : Nat → Value → re_H → Prop} {a0 : Nat} {a1 : Nat} {as0 : Nat}
    {c : Nat} {w : List Value} (eg : re_hg h as0 = some (c, w)) (ec : c = 6) {s1 s2 : Nat} (hs9 : s1 + s2 ≤ s) (K : wp SC 384 d s1 0 [(0, .ref as0), (1, .ref a1)] [] h (wp_ret SC 0 (d + 1) s2 88 [(0, .ref a0), (1, .ref a1)] [.ref as0] Q)) : wp SC 0 (d + 1) s 83 [(0, .ref a0), (1, .ref a1)] [.ref as0] h Q := by
  refine wp_run 2 (pc' := 85) (lv' := [(0, .ref a0), (1, .ref a1)]) (st' := [.ref a1, .ref as0, .ref as0]) rfl ?_
  have eA : lv_args 0 (.ref as0 :: [.ref a1].reverse) = [(0, .ref as0), (1, .ref a1)] := by simp [lv_args, vc_i, vc_l, vc_r, vc_n, vc_a]
  refine wp_callI (ar := [.ref a1]) (rest := [.ref as0]) (s1 := s1) (s2 := s2) (d' := d) ⟨rfl, rfl⟩ rfl (Or.inl rfl)  (by simp [re_cat, vc_i, vc_l, vc_r, vc_n, vc_a]) (by rw [show re_cat (.ref as0 :: [.ref a1].reverse) = 2 from by simp [re_cat, vc_i, vc_l, vc_r, vc_n, vc_a]]; decide) (by decide) rfl eg ec rfl hs9 ?_
  rw [eA]
  exact wp_mono K (fun k v h' z => wp_ret_weak (re_sb_at rfl (re_sb_at rfl (re_sb_nil _))) z)
set_option maxRecDepth 20000 in
theorem L0_88 {SC : List Value} {d s : Nat} {h : re_H} {Q : Nat → Value → re_H → Prop} {a0 : Nat} {a1 : Nat} {as0 : Nat}
    {s' : Nat} (hs9 : s' + 2 ≤ s) (K : wp SC 0 d s' 92 [(0, .ref a0), (1, .ref a1), (2, .ref as0)] [.ref h.1] (re_hq h (7, [.null, .null, .null, .null, .null, .int 0, .null, .null, .int 0, .int 0, .int 0, .int 0, .null, .long 0])) Q) : wp SC 0 d s 88 [(0, .ref a0), (1, .ref a1)] [.ref as0] h Q := by
  refine wp_run 1 (pc' := 89) (lv' := [(2, .ref as0), (0, .ref a0), (1, .ref a1)]) (st' := []) rfl ?_
  exact wp_new2 (s' := s') (vs := [.null, .null, .null, .null, .null, .int 0, .null, .null, .int 0, .int 0, .int 0, .int 0, .null, .long 0]) ⟨rfl, rfl⟩ rfl (by decide) (by show 14 + _ ≤ _; omega) (by omega) (wp_weak (re_sb_at rfl (re_sb_at rfl (re_sb_at rfl (re_sb_nil _)))) K)
set_option maxRecDepth 20000 in
theorem L0_92 {SC : List Value} {d s : Nat} {h : re_H} {Q : Nat → Value → re_H → Prop} {a0 : Nat} {a1 : Nat} {a2 : Nat} {as0 : Nat}
    {ae1 : Nat} (e2 : nb_fd h a0 0 5 (.ref ae1)) {c : Nat} {w : List Value} (eg : re_hg h as0 = some (c, w)) (ec : c = 7) {s1 s2 : Nat} (hs9 : s1 + s2 ≤ s) (K : wp SC 448 d s1 0 [(0, .ref as0), (1, .ref a2), (2, .ref ae1)] [] h (wp_ret SC 0 (d + 1) s2 101 [(0, .ref a0), (1, .ref a1)] [.ref as0] Q)) : wp SC 0 (d + 1) s 92 [(0, .ref a0), (1, .ref a1), (2, .ref a2)] [.ref as0] h Q := by
  refine wp_run 3 (pc' := 95) (lv' := [(0, .ref a0), (1, .ref a1), (2, .ref a2)]) (st' := [.ref a0, .ref a2, .ref as0, .ref as0]) rfl ?_
  obtain ⟨w2, e2a, e2b⟩ := e2
  refine wp_gf ⟨rfl, rfl⟩ rfl e2a e2b ?_
  have eA : lv_args 0 (.ref as0 :: [.ref ae1, .ref a2].reverse) = [(0, .ref as0), (1, .ref a2), (2, .ref ae1)] := by simp [lv_args, vc_i, vc_l, vc_r, vc_n, vc_a]
  refine wp_callI (ar := [.ref ae1, .ref a2]) (rest := [.ref as0]) (s1 := s1) (s2 := s2) (d' := d) ⟨rfl, rfl⟩ rfl (Or.inl rfl)  (by simp [re_cat, vc_i, vc_l, vc_r, vc_n, vc_a]) (by rw [show re_cat (.ref as0 :: [.ref ae1, .ref a2].reverse) = 3 from by simp [re_cat, vc_i, vc_l, vc_r, vc_n, vc_a]]; decide) (by decide) rfl eg ec rfl hs9 ?_
  rw [eA]
  exact wp_mono K (fun k v h' z => wp_ret_weak (re_sb_at rfl (re_sb_at rfl (re_sb_nil _))) z)
set_option maxRecDepth 20000 in
theorem L0_101 {SC : List Value} {d s : Nat} {h : re_H} {Q : Nat → Value → re_H → Prop} {a0 : Nat} {a1 : Nat} {as0 : Nat}
    (K : wp SC 0 d s 106 [(0, .ref a0), (1, .ref a1), (3, .ref as0)] [.ref h.1, .ref a0] (re_hq h (8, [.null, .null, .null, .null, .int 0])) Q) : wp SC 0 d s 101 [(0, .ref a0), (1, .ref a1)] [.ref as0] h Q := by
  refine wp_run 2 (pc' := 103) (lv' := [(3, .ref as0), (0, .ref a0), (1, .ref a1)]) (st' := [.ref a0]) rfl ?_
  exact wp_new (vs := [.null, .null, .null, .null, .int 0]) ⟨rfl, rfl⟩ rfl (by decide) (by decide) (wp_weak (re_sb_at rfl (re_sb_at rfl (re_sb_at rfl (re_sb_nil _)))) K)
set_option maxRecDepth 20000 in
theorem L0_106 {SC : List Value} {d s : Nat} {h : re_H} {Q : Nat → Value → re_H → Prop} {a0 : Nat} {a1 : Nat} {a3 : Nat} {as0 : Nat} {as1 : Nat}
    {ae1 : Nat} (e2 : nb_fd h a0 0 2 (.ref ae1)) {ae3 : Nat} (e4 : nb_fd h a0 0 4 (.ref ae3)) {c : Nat} {w : List Value} (eg : re_hg h as0 = some (c, w)) (ec : c = 8) {s1 s2 : Nat} (hs9 : s1 + s2 ≤ s) (K : wp SC 512 d s1 0 [(0, .ref as0), (1, .ref ae1), (2, .ref ae3), (3, .ref a3), (4, .ref a1), (5, .int (i32 0))] [] h (wp_ret SC 0 (d + 1) s2 121 [(0, .ref a0), (1, .ref a1), (3, .ref a3)] [.ref as0, .ref as1] Q)) : wp SC 0 (d + 1) s 106 [(0, .ref a0), (1, .ref a1), (3, .ref a3)] [.ref as0, .ref as1] h Q := by
  refine wp_run 2 (pc' := 108) (lv' := [(0, .ref a0), (1, .ref a1), (3, .ref a3)]) (st' := [.ref a0, .ref as0, .ref as0, .ref as1]) rfl ?_
  obtain ⟨w2, e2a, e2b⟩ := e2
  refine wp_gf ⟨rfl, rfl⟩ rfl e2a e2b ?_
  refine wp_run 1 (pc' := 112) (lv' := [(0, .ref a0), (1, .ref a1), (3, .ref a3)]) (st' := [.ref a0, .ref ae1, .ref as0, .ref as0, .ref as1]) rfl ?_
  obtain ⟨w4, e4a, e4b⟩ := e4
  refine wp_gf ⟨rfl, rfl⟩ rfl e4a e4b ?_
  refine wp_run 3 (pc' := 118) (lv' := [(0, .ref a0), (1, .ref a1), (3, .ref a3)]) (st' := [.int (i32 0), .ref a1, .ref a3, .ref ae3, .ref ae1, .ref as0, .ref as0, .ref as1]) rfl ?_
  have eA : lv_args 0 (.ref as0 :: [.int (i32 0), .ref a1, .ref a3, .ref ae3, .ref ae1].reverse) = [(0, .ref as0), (1, .ref ae1), (2, .ref ae3), (3, .ref a3), (4, .ref a1), (5, .int (i32 0))] := by simp [lv_args, vc_i, vc_l, vc_r, vc_n, vc_a]
  refine wp_callI (ar := [.int (i32 0), .ref a1, .ref a3, .ref ae3, .ref ae1]) (rest := [.ref as0, .ref as1]) (s1 := s1) (s2 := s2) (d' := d) ⟨rfl, rfl⟩ rfl (Or.inl rfl)  (by simp [re_cat, vc_i, vc_l, vc_r, vc_n, vc_a]) (by rw [show re_cat (.ref as0 :: [.int (i32 0), .ref a1, .ref a3, .ref ae3, .ref ae1].reverse) = 6 from by simp [re_cat, vc_i, vc_l, vc_r, vc_n, vc_a]]; decide) (by decide) rfl eg ec rfl hs9 ?_
  rw [eA]
  exact wp_mono K (fun k v h' z => wp_ret_weak (re_sb_at rfl (re_sb_at rfl (re_sb_at rfl (re_sb_nil _)))) z)
set_option maxRecDepth 20000 in
theorem L0_121 {SC : List Value} {d s : Nat} {h : re_H} {Q : Nat → Value → re_H → Prop} {a0 : Nat} {a1 : Nat} {a3 : Nat} {as0 : Nat} {as1 : Nat}
    {w : List Value} (e : re_hg h as1 = some (0, w)) (hk : 6 < w.length) (K : wp SC 0 d s 124 [(0, .ref a0), (1, .ref a1), (3, .ref a3)] [] (re_hw h as1 (0, w.set 6 (.ref as0))) Q) : wp SC 0 d s 121 [(0, .ref a0), (1, .ref a1), (3, .ref a3)] [.ref as0, .ref as1] h Q := by
  exact wp_pf ⟨rfl, rfl⟩ rfl (Or.inr ⟨rfl, rfl⟩) e hk (fit_o (Or.inr ⟨_, rfl⟩)) (wp_weak (re_sb_at rfl (re_sb_at rfl (re_sb_at rfl (re_sb_nil _)))) K)
set_option maxRecDepth 20000 in
theorem L0_124 {SC : List Value} {d s : Nat} {h : re_H} {Q : Nat → Value → re_H → Prop} {a0 : Nat} {a1 : Nat} {a3 : Nat}
    (K : wp SC 0 d s 128 [(0, .ref a0), (1, .ref a1), (3, .ref a3)] [.ref h.1, .ref a0] (re_hq h (8, [.null, .null, .null, .null, .int 0])) Q) : wp SC 0 d s 124 [(0, .ref a0), (1, .ref a1), (3, .ref a3)] [] h Q := by
  refine wp_run 1 (pc' := 125) (lv' := [(0, .ref a0), (1, .ref a1), (3, .ref a3)]) (st' := [.ref a0]) rfl ?_
  exact wp_new (vs := [.null, .null, .null, .null, .int 0]) ⟨rfl, rfl⟩ rfl (by decide) (by decide) (wp_weak (re_sb_at rfl (re_sb_at rfl (re_sb_at rfl (re_sb_nil _)))) K)
set_option maxRecDepth 20000 in
theorem L0_128 {SC : List Value} {d s : Nat} {h : re_H} {Q : Nat → Value → re_H → Prop} {a0 : Nat} {a1 : Nat} {a3 : Nat} {as0 : Nat} {as1 : Nat}
    {ae1 : Nat} (e2 : nb_fd h a0 0 2 (.ref ae1)) {ae3 : Nat} (e4 : nb_fd h a0 0 4 (.ref ae3)) {c : Nat} {w : List Value} (eg : re_hg h as0 = some (c, w)) (ec : c = 8) {s1 s2 : Nat} (hs9 : s1 + s2 ≤ s) (K : wp SC 512 d s1 0 [(0, .ref as0), (1, .ref ae1), (2, .ref ae3), (3, .ref a3), (4, .ref a1), (5, .int (i32 12))] [] h (wp_ret SC 0 (d + 1) s2 144 [(0, .ref a0)] [.ref as0, .ref as1] Q)) : wp SC 0 (d + 1) s 128 [(0, .ref a0), (1, .ref a1), (3, .ref a3)] [.ref as0, .ref as1] h Q := by
  refine wp_run 2 (pc' := 130) (lv' := [(0, .ref a0), (1, .ref a1), (3, .ref a3)]) (st' := [.ref a0, .ref as0, .ref as0, .ref as1]) rfl ?_
  obtain ⟨w2, e2a, e2b⟩ := e2
  refine wp_gf ⟨rfl, rfl⟩ rfl e2a e2b ?_
  refine wp_run 1 (pc' := 134) (lv' := [(0, .ref a0), (1, .ref a1), (3, .ref a3)]) (st' := [.ref a0, .ref ae1, .ref as0, .ref as0, .ref as1]) rfl ?_
  obtain ⟨w4, e4a, e4b⟩ := e4
  refine wp_gf ⟨rfl, rfl⟩ rfl e4a e4b ?_
  refine wp_run 2 (pc' := 139) (lv' := [(0, .ref a0), (1, .ref a1), (3, .ref a3)]) (st' := [.ref a1, .ref a3, .ref ae3, .ref ae1, .ref as0, .ref as0, .ref as1]) rfl ?_
  refine wp_bi (x := (i32 12)) ⟨rfl, rfl⟩ (by decide) ?_
  have eA : lv_args 0 (.ref as0 :: [.int (i32 12), .ref a1, .ref a3, .ref ae3, .ref ae1].reverse) = [(0, .ref as0), (1, .ref ae1), (2, .ref ae3), (3, .ref a3), (4, .ref a1), (5, .int (i32 12))] := by simp [lv_args, vc_i, vc_l, vc_r, vc_n, vc_a]
  refine wp_callI (ar := [.int (i32 12), .ref a1, .ref a3, .ref ae3, .ref ae1]) (rest := [.ref as0, .ref as1]) (s1 := s1) (s2 := s2) (d' := d) ⟨rfl, rfl⟩ rfl (Or.inl rfl)  (by simp [re_cat, vc_i, vc_l, vc_r, vc_n, vc_a]) (by rw [show re_cat (.ref as0 :: [.int (i32 12), .ref a1, .ref a3, .ref ae3, .ref ae1].reverse) = 6 from by simp [re_cat, vc_i, vc_l, vc_r, vc_n, vc_a]]; decide) (by decide) rfl eg ec rfl hs9 ?_
  rw [eA]
  exact wp_mono K (fun k v h' z => wp_ret_weak (re_sb_at rfl (re_sb_nil _)) z)
set_option maxRecDepth 20000 in
theorem L0_144 {SC : List Value} {d s : Nat} {h : re_H} {Q : Nat → Value → re_H → Prop} {a0 : Nat} {as0 : Nat} {as1 : Nat}
    {w : List Value} (e : re_hg h as1 = some (0, w)) (hk : 7 < w.length) (K : wp SC 0 d s 147 [(0, .ref a0)] [] (re_hw h as1 (0, w.set 7 (.ref as0))) Q) : wp SC 0 d s 144 [(0, .ref a0)] [.ref as0, .ref as1] h Q := by
  exact wp_pf ⟨rfl, rfl⟩ rfl (Or.inr ⟨rfl, rfl⟩) e hk (fit_o (Or.inr ⟨_, rfl⟩)) (wp_weak (re_sb_at rfl (re_sb_nil _)) K)
set_option maxRecDepth 20000 in
theorem L0_147 {SC : List Value} {d s : Nat} {h : re_H} {Q : Nat → Value → re_H → Prop} {a0 : Nat}
    {s' i : Nat} (hx : (i32 4) = i32 i) (hn : i * 8 ≤ 536870912) (hs : i + 2 * s' ≤ 11 + 2 * s) (hs' : s' ≤ s) (K : wp SC 0 d s' 152 [(0, .ref a0)] [.ref h.1, .ref a0] (re_hq h (107, List.replicate i .null)) Q) : wp SC 0 d s 147 [(0, .ref a0)] [] h Q := by
  refine wp_run 2 (pc' := 149) (lv' := [(0, .ref a0)]) (st' := [.int (i32 4), .ref a0]) rfl ?_
  exact wp_ana ⟨rfl, rfl⟩ rfl hx hn hs hs' (wp_weak (re_sb_at rfl (re_sb_nil _)) K)
set_option maxRecDepth 20000 in
theorem L0_152 {SC : List Value} {d s : Nat} {h : re_H} {Q : Nat → Value → re_H → Prop} {a0 : Nat} {as0 : Nat} {as1 : Nat}
    {w : List Value} (e : re_hg h as1 = some (0, w)) (hk : 9 < w.length) (K : wp SC 0 d s 155 [(0, .ref a0)] [] (re_hw h as1 (0, w.set 9 (.ref as0))) Q) : wp SC 0 d s 152 [(0, .ref a0)] [.ref as0, .ref as1] h Q := by
  exact wp_pf ⟨rfl, rfl⟩ rfl (Or.inr ⟨rfl, rfl⟩) e hk (fit_a (Or.inr ⟨_, rfl⟩)) (wp_weak (re_sb_at rfl (re_sb_nil _)) K)
set_option maxRecDepth 20000 in
theorem L0_155 {SC : List Value} {d s : Nat} {h : re_H} {Q : Nat → Value → re_H → Prop} {a0 : Nat}
    {w : List Value} (e : re_hg h a0 = some (0, w)) (hk : 8 < w.length) (K : wp SC 0 d s 160 [] [] (re_hw h a0 (0, w.set 8 (.int (i32 0)))) Q) : wp SC 0 d s 155 [(0, .ref a0)] [] h Q := by
  refine wp_run 2 (pc' := 157) (lv' := [(0, .ref a0)]) (st' := [.int (i32 0), .ref a0]) rfl ?_
  exact wp_pf ⟨rfl, rfl⟩ rfl (Or.inl rfl) e hk (fit_i _) (wp_weak (re_sb_nil _) K)
set_option maxRecDepth 20000 in
theorem L0_160 {SC : List Value} {d s : Nat} {h : re_H} {Q : Nat → Value → re_H → Prop} 
    (K : Q 0 .null h) : wp SC 0 d s 160 [] [] h Q := by
  exact wp_retv ⟨rfl, rfl⟩ rfl K
set_option maxRecDepth 20000 in
theorem N588_3 {SC : List Value} {d s : Nat} {h : re_H} {Q : Nat → Value → re_H → Prop} {as0 : Nat}
    {c : Nat} {w : List Value} (eg : re_hg h as0 = some (c, w)) (ec : c = 0) {s1 s2 : Nat} (hs9 : s1 + s2 ≤ s) (K : wp SC 0 d s1 0 [(0, .ref as0)] [] h (wp_ret SC 588 (d + 1) s2 7 [(0, .retAddr 2)] [.ref as0] Q)) : wp SC 588 (d + 1) s 3 [(0, .retAddr 2)] [.ref as0] h Q := by
  refine wp_run 1 (pc' := 4) (lv' := [(0, .retAddr 2)]) (st' := [.ref as0, .ref as0]) rfl ?_
  have eA : lv_args 0 (.ref as0 :: [].reverse) = [(0, .ref as0)] := by simp [lv_args, vc_i, vc_l, vc_r, vc_n, vc_a]
  refine wp_callI (ar := []) (rest := [.ref as0]) (s1 := s1) (s2 := s2) (d' := d) ⟨rfl, rfl⟩ rfl (Or.inl rfl)  (by simp [re_cat, vc_i, vc_l, vc_r, vc_n, vc_a]) (by rw [show re_cat (.ref as0 :: [].reverse) = 1 from by simp [re_cat, vc_i, vc_l, vc_r, vc_n, vc_a]]; decide) (by decide) rfl eg ec rfl hs9 ?_
  rw [eA]
  exact wp_mono K (fun k v h' z => wp_ret_weak (re_sb_at rfl (re_sb_nil _)) z)
set_option maxRecDepth 20000 in
theorem N588_11 {SC : List Value} {d s : Nat} {h : re_H} {Q : Nat → Value → re_H → Prop} {a1 : Nat} {as0 : Nat}
    {c : Nat} {w : List Value} (eg : re_hg h as0 = some (c, w)) (ec : c = 0) {s1 s2 : Nat} (hs9 : s1 + s2 ≤ s) (K : wp SC 0 d s1 0 [(0, .ref as0)] [] h (wp_ret SC 588 (d + 1) s2 15 [(0, .retAddr 2), (1, .ref a1)] [.ref as0] Q)) : wp SC 588 (d + 1) s 11 [(0, .retAddr 2), (1, .ref a1)] [.ref as0] h Q := by
  refine wp_run 1 (pc' := 12) (lv' := [(0, .retAddr 2), (1, .ref a1)]) (st' := [.ref as0, .ref as0]) rfl ?_
  have eA : lv_args 0 (.ref as0 :: [].reverse) = [(0, .ref as0)] := by simp [lv_args, vc_i, vc_l, vc_r, vc_n, vc_a]
  refine wp_callI (ar := []) (rest := [.ref as0]) (s1 := s1) (s2 := s2) (d' := d) ⟨rfl, rfl⟩ rfl (Or.inl rfl)  (by simp [re_cat, vc_i, vc_l, vc_r, vc_n, vc_a]) (by rw [show re_cat (.ref as0 :: [].reverse) = 1 from by simp [re_cat, vc_i, vc_l, vc_r, vc_n, vc_a]]; decide) (by decide) rfl eg ec rfl hs9 ?_
  rw [eA]
  exact wp_mono K (fun k v h' z => wp_ret_weak (re_sb_at rfl (re_sb_at rfl (re_sb_nil _))) z)
