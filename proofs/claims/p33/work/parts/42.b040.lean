theorem B256_0 {SC : List Value} {d s : Nat} {h : re_H} {Q : Nat → Value → re_H → Prop} {a0 : Nat}
    (K : wp SC 256 d s 4 [(0, .ref a0)] [] h Q) : wp SC 256 d s 0 [(0, .ref a0)] [] h Q := by
  refine wp_run 1 (pc' := 1) (lv' := [(0, .ref a0)]) (st' := [.ref a0]) rfl ?_
  refine wp_obj ⟨rfl, rfl⟩ rfl (by simp [re_cat, vc_i, vc_l, vc_r, vc_n, vc_a]) ?_
  exact wp_weak (re_sb_at rfl (re_sb_nil _)) K
theorem B256_4 {SC : List Value} {d s : Nat} {h : re_H} {Q : Nat → Value → re_H → Prop} {a0 : Nat}
    {s' i : Nat} (hx : (i32 4) = i32 i) (hn : i * 8 ≤ 536870912) (hs : i + 2 * s' ≤ 11 + 2 * s) (hs' : s' ≤ s) (K : wp SC 256 d s' 8 [] [.ref h.1, .ref a0] (re_hq h (101, List.replicate i (.long 0))) Q) : wp SC 256 d s 4 [(0, .ref a0)] [] h Q := by
  refine wp_run 2 (pc' := 6) (lv' := [(0, .ref a0)]) (st' := [.int (i32 4), .ref a0]) rfl ?_
  exact wp_na ⟨rfl, rfl⟩ hx hn (Or.inr (Or.inl ⟨rfl, rfl, rfl⟩)) hs hs' (wp_weak (re_sb_nil _) K)
theorem B256_8 {SC : List Value} {d s : Nat} {h : re_H} {Q : Nat → Value → re_H → Prop} {as0 : Nat} {as1 : Nat}
    {w : List Value} (e : re_hg h as1 = some (4, w)) (hk : 0 < w.length) (K : wp SC 256 d s 11 [] [] (re_hw h as1 (4, w.set 0 (.ref as0))) Q) : wp SC 256 d s 8 [] [.ref as0, .ref as1] h Q := by
  exact wp_pf ⟨rfl, rfl⟩ rfl (Or.inr ⟨rfl, rfl⟩) e hk (fit_a (Or.inr ⟨_, rfl⟩)) (wp_weak (re_sb_nil _) K)
theorem B256_11 {SC : List Value} {d s : Nat} {h : re_H} {Q : Nat → Value → re_H → Prop} 
    (K : Q 0 .null h) : wp SC 256 d s 11 [] [] h Q := by
  exact wp_retv ⟨rfl, rfl⟩ rfl K
